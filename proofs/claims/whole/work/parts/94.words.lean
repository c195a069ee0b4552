/-! Words: as they are spelled, as numbers (by wip/whole/gen_tok.py). -/
def wst : List Nat := [119, 97, 110, 116, 115, 32, 115, 112, 97, 114, 101, 115, 32, 111, 98, 106, 101, 99, 116, 32, 116, 111, 117, 99, 104, 32, 119, 114, 105, 116, 101, 32, 115, 119, 101, 101, 112, 32, 101, 109, 112, 116, 121, 32, 100, 114, 111, 112, 32, 100, 97, 121, 32, 111, 102, 32, 98, 121, 32, 104, 97, 115, 32, 115, 111, 105, 108, 101, 100, 32, 105, 102, 32, 116, 104, 101, 110, 32, 101, 108, 115, 101, 32, 101, 110, 100, 32, 111, 114, 32, 97, 110, 100, 32, 110, 111, 116, 32, 116, 105, 109, 101, 32, 102, 114, 101, 101, 32, 110, 117, 109, 98, 101, 114, 32, 115, 105, 122, 101, 32, 112, 97, 103, 101, 32, 105, 100, 108, 101, 32, 104, 111, 108, 100, 115, 32, 115, 112, 97, 110]
theorem wst_eq : ax_str 0 = wst := by decide +kernel
def wbg : List Nat := [0, 6, 13, 20, 26, 32, 38, 44, 49, 53, 56, 59, 63, 70, 73, 78, 83, 87, 90, 94, 98, 103, 108, 115, 120, 125, 130, 136]
def wed : List Nat := [5, 12, 19, 25, 31, 37, 43, 48, 52, 55, 58, 62, 69, 72, 77, 82, 86, 89, 93, 97, 102, 107, 114, 119, 124, 129, 135, 140]
def wcd : List Nat := [512735736947, 126926508418419, 122468482507636, 500086170472, 513020621925, 495924372848, 435627783289, 1685221232, 6578553, 28518, 25209, 6840691, 126922347275620, 26982, 1952998766, 1701606245, 6647396, 28530, 6385252, 7237492, 1953066341, 1718773093, 121450625394034, 1936292453, 1885431653, 1768189029, 448545973363, 1936744814]
/-- letters as a number -/
def nm (f : Nat → Nat) : Nat → Nat
  | 0 => 0
  | d + 1 => 256 * nm f d + f d
theorem nm_z {f : Nat → Nat} : ∀ {d : Nat}, 0 < d → (∀ k, k < d → 1 ≤ f k ∧ f k < 256) → 0 < nm f d
  | 0, h, _ => by omega
  | d + 1, _, H => by
    have := (H d (by omega)).1
    show 0 < 256 * nm f d + f d
    omega
theorem nm_inj {f g : Nat → Nat} : ∀ {d e : Nat}, (∀ k, k < d → 1 ≤ f k ∧ f k < 256) → (∀ k, k < e → 1 ≤ g k ∧ g k < 256) → nm f d = nm g e → d = e ∧ ∀ k, k < d → f k = g k
  | 0, 0, _, _, _ => ⟨rfl, fun k hk => by omega⟩
  | 0, e + 1, _, hg, h => by
    have := nm_z (f := g) (d := e + 1) (by omega) hg
    have h0 : nm f 0 = 0 := rfl
    omega
  | d + 1, 0, hf, _, h => by
    have := nm_z (f := f) (d := d + 1) (by omega) hf
    have h0 : nm g 0 = 0 := rfl
    omega
  | d + 1, e + 1, hf, hg, h => by
    have a := hf d (by omega)
    have b := hg e (by omega)
    have h' : 256 * nm f d + f d = 256 * nm g e + g e := h
    obtain ⟨i1, i2⟩ := nm_inj (d := d) (e := e) (fun k hk => hf k (by omega)) (fun k hk => hg k (by omega)) (by omega)
    subst i1
    refine ⟨rfl, fun k hk => ?_⟩
    by_cases c : k = d
    · subst c; omega
    · exact i2 k (by omega)
theorem nm_congr {f g : Nat → Nat} : ∀ {d : Nat}, (∀ k, k < d → f k = g k) → nm f d = nm g d
  | 0, _ => rfl
  | d + 1, h => by
    show 256 * nm f d + f d = 256 * nm g d + g d
    rw [nm_congr (d := d) (fun k hk => h k (by omega)), h d (by omega)]
theorem nm_lt {f : Nat → Nat} : ∀ {d : Nat}, (∀ k, k < d → f k < 256) → nm f d < 256 ^ d
  | 0, _ => by show 0 < 1; omega
  | d + 1, h => by
    have := nm_lt (d := d) (fun k hk => h k (by omega))
    have := h d (by omega)
    show 256 * nm f d + f d < 256 ^ (d + 1)
    rw [Nat.pow_succ]
    omega
/-- where the words lie, and their numbers -/
theorem wd_at : ∀ j, j < 28 → wed.getD j 0 ≤ 140 ∧ wbg.getD j 0 < wed.getD j 0 ∧ wed.getD j 0 - wbg.getD j 0 ≤ 6 ∧ wcd.getD j 0 = nm (fun k => wst.getD (wbg.getD j 0 + k) 0) (wed.getD j 0 - wbg.getD j 0) ∧ (wed.getD j 0 = 140 ∨ wst.getD (wed.getD j 0) 0 = 32) ∧ wbg.getD (j + 1) 141 = wed.getD j 0 + 1 := by decide +kernel
theorem wd_ch : ∀ j, j < 28 → ∀ k, k < 6 → wbg.getD j 0 + k < wed.getD j 0 → (1 ≤ wst.getD (wbg.getD j 0 + k) 0 ∧ wst.getD (wbg.getD j 0 + k) 0 < 256) ∧ wst.getD (wbg.getD j 0 + k) 0 ≠ 32 := by decide +kernel
theorem wcd_ne : ∀ i, i < 28 → ∀ j, j < 28 → wcd.getD i 0 = wcd.getD j 0 → i = j := by decide +kernel
theorem wcd_lt : ∀ j, j < 28 → wcd.getD j 0 < 281474976710656 := by decide +kernel
/-- the word j stands there -/
def wM (b : Nat → Int) (st en j : Nat) : Prop := wed.getD j 0 - wbg.getD j 0 = en - st ∧ ∀ k, k < en - st → ((wst.getD (wbg.getD j 0 + k) 0 : Nat) : Int) = b (st + k)
theorem wM_iff {b : Nat → Int} {st en j : Nat} (hj : j < 28) (hb : ∀ k, st ≤ k → k < en → 1 ≤ b k ∧ b k < 256) (h : st ≤ en) : wM b st en j ↔ nm (fun k => (b (st + k)).toNat) (en - st) = wcd.getD j 0 := by
  obtain ⟨a1, a2, a3, a4, _⟩ := wd_at j hj
  constructor
  · intro ⟨h1, h2⟩
    rw [a4, h1]
    refine nm_congr (fun k hk => ?_)
    have := h2 k hk
    show (b (st + k)).toNat = wst.getD (wbg.getD j 0 + k) 0
    omega
  · intro h1
    rw [a4] at h1
    obtain ⟨e1, e2⟩ := nm_inj (fun k hk => by
      have := hb (st + k) (by omega) (by omega)
      show 1 ≤ (b (st + k)).toNat ∧ (b (st + k)).toNat < 256
      omega) (fun k hk => (wd_ch j hj k (by omega) (by omega)).1) h1
    refine ⟨e1.symm, fun k hk => ?_⟩
    have h3 : (b (st + k)).toNat = wst.getD (wbg.getD j 0 + k) 0 := e2 k hk
    have := hb (st + k) (by omega) (by omega)
    omega
