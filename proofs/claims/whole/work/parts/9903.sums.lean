/-! Sums and asks, on both sides: pieces of code that come to the same. -/
def CV (ow : Nat → Prop) (C : Nat → Int) (i j dep : Nat) (w : bS) (nn : Nat → Int) (V : Int) : Prop := ∀ (x t kk xx : bS) (to n top : Nat), CX C i j x to → (∀ k, k < 8 → ow k → xx.2 0 k = nn k) → top + dep ≤ 64 → 100 + (j - i) ≤ n → ∃ (xx' : bS) (n1 : Nat), A1_answer_6 t x n (kk, w, xx) (to : Int) (top : Int) (i : Int) = A1_answer_6 t x n1 (kk, w, xx') (to : Int) ((top + 1 : Nat) : Int) (j : Int) ∧ n ≤ n1 + (j - i) ∧ (∀ k, k < 8 → ow k → xx'.2 0 k = nn k) ∧ (∀ k, k < top → xx'.2 1 k = xx.2 1 k) ∧ xx'.2 1 top = V
def RV (ow : Nat → Prop) (R : Nat → Int) (u v dep : Nat) (a nn : Nat → Int) (V : Int) : Prop := ∀ (m : bS) (cl cb n top tr : Nat), RX R u v m cl cb → m.2 0 = a → (∀ k, k < 8 → ow k → m.2 20 k = nn k) → top + dep ≤ 64 → tr + dep ≤ 64 → 100 + (v - u) ≤ n → ∃ (m' : bS) (n1 : Nat), R_summedUp_38 n m (cl : Int) (cb : Int) (top : Int) (tr : Int) (u : Int) = R_summedUp_38 n1 m' (cl : Int) (cb : Int) ((top + 1 : Nat) : Int) (tr : Int) (v : Int) ∧ n ≤ n1 + (v - u) ∧ M21 m m' ∧ (∀ k, k < top → m'.2 21 k = m.2 21 k) ∧ (∀ k, k < tr → m'.2 22 k = m.2 22 k) ∧ m'.2 21 top = V
def RA (ow : Nat → Prop) (R : Nat → Int) (u v dep : Nat) (a nn : Nat → Int) (B : Bool) : Prop := ∀ (m : bS) (cl cb n top tr : Nat), RX R u v m cl cb → m.2 0 = a → (∀ k, k < 8 → ow k → m.2 20 k = nn k) → top + dep ≤ 64 → tr + dep ≤ 64 → 100 + (v - u) ≤ n → ∃ (m' : bS) (n1 : Nat), R_summedUp_38 n m (cl : Int) (cb : Int) (top : Int) (tr : Int) (u : Int) = R_summedUp_38 n1 m' (cl : Int) (cb : Int) (top : Int) ((tr + 1 : Nat) : Int) (v : Int) ∧ n ≤ n1 + (v - u) ∧ M21 m m' ∧ (∀ k, k < top → m'.2 21 k = m.2 21 k) ∧ (∀ k, k < tr → m'.2 22 k = m.2 22 k) ∧ m'.2 22 tr = bi B
def EV (w : bS) (a : Nat → Int) : Prop := ∀ (n : Nat) (m : bS) (v : Int), 100 ≤ n → m.2 0 = a → -1000000 ≤ v → v ≤ 1000000 → R_ofOne n m 2 v = some (hsv w 6 v, m) ∧ R_ofOne n m 4 v = some (hsv w 7 v, m)
def od (b k : Nat) : Prop := (b = 0 ∧ k ≤ 4) ∨ (b = 1 ∧ k ≠ 4)
def SN (ow : Nat → Prop) (C : Nat → Int) (i j : Nat) (R : Nat → Int) (u v dep : Nat) : Prop := (i ≤ j ∧ u ≤ v) ∧ ∀ (w : bS) (a nn : Nat → Int), EV w a → (∀ k, k < 8 → ow k → -1000000 ≤ nn k ∧ nn k ≤ 1000000) → ∃ V : Int, (-1000000 ≤ V ∧ V ≤ 1000000) ∧ CV ow C i j dep w nn V ∧ RV ow R u v dep a nn V
def SA (ow : Nat → Prop) (C : Nat → Int) (i j : Nat) (R : Nat → Int) (u v dep : Nat) : Prop := (i ≤ j ∧ u ≤ v) ∧ ∀ (w : bS) (a nn : Nat → Int), EV w a → (∀ k, k < 8 → ow k → -1000000 ≤ nn k ∧ nn k ≤ 1000000) → ∃ B : Bool, CV ow C i j dep w nn (bi B) ∧ RA ow R u v dep a nn B
section
variable {ow : Nat → Prop} {C C' R R' a nn : Nat → Int} {i j k u v y d d1 d2 d3 dep op : Nat} {w m m' : bS} {V V1 V2 r : Int} {A B : Bool}
theorem bi_in : -1000000 ≤ bi A ∧ bi A ≤ 1000000 := by cases A <;> decide
theorem CV.c (H : CV ow C i j d w nn V) (h : ∀ k, i ≤ k → k < j → C' k = C k) (hd : d ≤ dep) : CV ow C' i j dep w nn V := fun x t kk xx to n top X hnn ht hn => H x t kk xx to n top ⟨fun k k1 k2 => by rw [X.1 k k1 k2, h k k1 k2], X.2⟩ hnn (by omega) hn
theorem RX.c {cl cb : Nat} (X : RX R' u v m cl cb) (h : ∀ k, 2 * u ≤ k → k < 2 * v → R' k = R k) : RX R u v m cl cb := ⟨fun k k1 k2 => by rw [X.1 k k1 k2, h k k1 k2], X.2⟩
theorem SN.c (H : SN ow C i j R u v d) (h : ∀ k, i ≤ k → k < j → C' k = C k) (h' : ∀ k, 2 * u ≤ k → k < 2 * v → R' k = R k) (hd : d ≤ dep) : SN ow C' i j R' u v dep := ⟨H.1, fun w a nn E N => by
  obtain ⟨V, h1, h2, h3⟩ := H.2 w a nn E N
  exact ⟨V, h1, h2.c h hd, fun m cl cb n top tr X ha hnn t1 t2 hn => h3 m cl cb n top tr (X.c h') ha hnn (by omega) (by omega) hn⟩⟩
theorem SA.c (H : SA ow C i j R u v d) (h : ∀ k, i ≤ k → k < j → C' k = C k) (h' : ∀ k, 2 * u ≤ k → k < 2 * v → R' k = R k) (hd : d ≤ dep) : SA ow C' i j R' u v dep := ⟨H.1, fun w a nn E N => by
  obtain ⟨B, h2, h3⟩ := H.2 w a nn E N
  exact ⟨B, h2.c h hd, fun m cl cb n top tr X ha hnn t1 t2 hn => h3 m cl cb n top tr (X.c h') ha hnn (by omega) (by omega) hn⟩⟩
theorem CV_2 (H1 : CV ow C i j d1 w nn V1) (H2 : CV ow C j k d2 w nn V2) (hij : i ≤ j) (hjk : j ≤ k) (ho : C k = (op : Int)) (h8 : 8 ≤ op) (D1 : d1 ≤ dep) (D2 : d2 + 1 ≤ dep) (D3 : 3 ≤ dep) (h191 : ∀ (t x : bS) (k6 : (bS × bS × bS) → Int → Int → Int → Option (Int × (bS × bS × bS))) (n : Nat) (s : bS × bS × bS) (l3 l5 l6 l8 f : Int), A1_answer_191 t x k6 n s l3 l5 l6 (op : Int) l8 V2 V1 f = A1_answer_579 t x k6 n s l3 l5 l6 r) : CV ow C i (k + 2) dep w nn (clp r) := fun x t kk xx to n top X hnn ht hn => by
  obtain ⟨xx1, n1, a1, a2, a3, a4, a5⟩ := H1 x t kk xx to n top (X.sub (Nat.le_refl i) (by omega)) hnn (by omega) (by omega)
  obtain ⟨xx2, n2, b1, b2, b3, b4, b5⟩ := H2 x t kk xx1 to n1 (top + 1) (X.sub hij (by omega)) a3 (by omega) (by omega)
  obtain ⟨n3, hn3⟩ : ∃ n3, n2 = n3 + 1 := ⟨n2 - 1, by omega⟩
  subst hn3
  have v1 : xx2.2 1 top = V1 := by rw [b4 top (by omega)]; exact a5
  have e := A_of2 (t := t) (kk := kk) (w := w) (xx := xx2) (n := n3) (top := top) (i := k) (v := r) (X.sub (by omega) (Nat.le_refl _)) ho (by omega) (by omega) (fun f k6 l5 => by rw [v1, b5]; exact h191 t x k6 n3 (kk, w, xx2) _ l5 _ _ f)
  refine ⟨bA xx2 1 (top : Int) (clp r), n3, (a1.trans b1).trans e, by omega, fun k hk ho => by rw [bA_2 (by decide)]; exact b3 k hk ho, fun k hk => ?_, ?_⟩
  · rw [bA_e (by omega), if_neg (by omega), b4 k (by omega), a4 k hk]
  · rw [bA_e (by omega), if_pos rfl]
theorem CV_1 (H1 : CV ow C i j d w nn V1) (hij : i ≤ j) (ho : C j = (op : Int)) (h3 : 3 < op) (h8 : op < 8) (D1 : d ≤ dep) (D2 : 2 ≤ dep) (h191 : ∀ (t x : bS) (k6 : (bS × bS × bS) → Int → Int → Int → Option (Int × (bS × bS × bS))) (n : Nat) (s : bS × bS × bS) (l3 l5 l6 l8 l11 f : Int), A1_answer_191 t x k6 n s l3 l5 l6 (op : Int) l8 V1 l11 f = A1_answer_579 t x k6 n s l3 l5 l6 r) : CV ow C i (j + 2) dep w nn (clp r) := fun x t kk xx to n top X hnn ht hn => by
  obtain ⟨xx1, n1, a1, a2, a3, a4, a5⟩ := H1 x t kk xx to n top (X.sub (Nat.le_refl i) (by omega)) hnn (by omega) (by omega)
  obtain ⟨n3, hn3⟩ : ∃ n3, n1 = n3 + 1 := ⟨n1 - 1, by omega⟩
  subst hn3
  have e := A_of (t := t) (kk := kk) (w := w) (xx := xx1) (n := n3) (top := top) (i := j) (v := r) (X.sub (by omega) (Nat.le_refl _)) ho (by omega) (by omega) (by omega) (fun f k6 l5 => by rw [a5]; exact h191 t x k6 n3 (kk, w, xx1) _ l5 _ _ _ f)
  refine ⟨bA xx1 1 (top : Int) (clp r), n3, a1.trans e, by omega, fun k hk ho => by rw [bA_2 (by decide)]; exact a3 k hk ho, fun k hk => ?_, ?_⟩
  · rw [bA_e (by omega), if_neg (by omega), a4 k hk]
  · rw [bA_e (by omega), if_pos rfl]
theorem CV_h {row : Nat} (H1 : CV ow C i j d w nn V1) (hij : i ≤ j) (ho : C j = (op : Int)) (hop : (op = 4 ∧ row = 6) ∨ (op = 5 ∧ row = 7)) (hV : -1000000 ≤ V1 ∧ V1 ≤ 1000000) (D1 : d ≤ dep) (D2 : 2 ≤ dep) : CV ow C i (j + 2) dep w nn (hsv w row V1) := fun x t kk xx to n top X hnn ht hn => by
  obtain ⟨xx1, n1, a1, a2, a3, a4, a5⟩ := H1 x t kk xx to n top (X.sub (Nat.le_refl i) (by omega)) hnn (by omega) (by omega)
  obtain ⟨n3, hn3⟩ : ∃ n3, n1 = n3 + 1 := ⟨n1 - 1, by omega⟩
  subst hn3
  have e := A_has (t := t) (kk := kk) (w := w) (xx := xx1) (n := n3) (top := top) (i := j) (row := row) (X.sub (by omega) (Nat.le_refl _)) ho (by omega) (by rw [a5]; exact hV) (by omega)
  refine ⟨bA xx1 1 (top : Int) (hsv w row (xx1.2 1 top)), n3, a1.trans e, by omega, fun k hk ho => by rw [bA_2 (by decide)]; exact a3 k hk ho, fun k hk => ?_, ?_⟩
  · rw [bA_e (by omega), if_neg (by omega), a4 k hk]
  · rw [bA_e (by omega), if_pos rfl, a5]
/-- leaves -/
theorem SN_num (h1 : C i = 0) (h2 : R (2 * u) = 0) (h3 : R (2 * u + 1) = C (i + 1)) (h4 : 0 ≤ C (i + 1) ∧ C (i + 1) ≤ 9999) : SN ow C i (i + 2) R u (u + 1) 1 := ⟨⟨by omega, by omega⟩, fun w a nn E N => ⟨C (i + 1), by omega, fun x t kk xx to n top X hnn ht hn => by
  obtain ⟨n3, hn3⟩ : ∃ n3, n = n3 + 1 := ⟨n - 1, by omega⟩
  subst hn3
  refine ⟨_, n3, A_num X h1 (by omega), by omega, fun k hk ho => by rw [bA_2 (by decide)]; exact hnn k hk ho, fun k hk => ?_, ?_⟩
  · rw [bA_e (by omega), if_neg (by omega)]
  · rw [bA_e (by omega), if_pos rfl, clp_id (by omega) (by omega)], fun m cl cb n top tr X ha hnn t1 t2 hn => by
  obtain ⟨n3, hn3⟩ : ∃ n3, n = n3 + 1 := ⟨n - 1, by omega⟩
  subst hn3
  refine ⟨_, n3, R38_num X h2 (by omega), by omega, M21_a, fun k hk => ?_, fun k hk => by rw [bA_2 (by decide)], ?_⟩
  · rw [bA_e (by omega), if_neg (by omega)]
  · rw [bA_e (by omega), if_pos rfl, h3]⟩⟩
theorem SN_nam (h1 : C i = 1) (h2 : R (2 * u) = 1) (h3 : R (2 * u + 1) = (k : Int)) (h4 : C (i + 1) = (k : Int)) (hk : k < 8) (hw : ow k) : SN ow C i (i + 2) R u (u + 1) 1 := ⟨⟨by omega, by omega⟩, fun w a nn E N => ⟨nn k, N k hk hw, fun x t kk xx to n top X hnn ht hn => by
  obtain ⟨n3, hn3⟩ : ∃ n3, n = n3 + 1 := ⟨n - 1, by omega⟩
  subst hn3
  have := N k hk hw
  refine ⟨_, n3, A_name X h1 h4 hk (by omega), by omega, fun k hk ho => by rw [bA_2 (by decide)]; exact hnn k hk ho, fun k hk => ?_, ?_⟩
  · rw [bA_e (by omega), if_neg (by omega)]
  · rw [bA_e (by omega), if_pos rfl, hnn k hk hw, clp_id (by omega) (by omega)], fun m cl cb n top tr X ha hnn t1 t2 hn => by
  obtain ⟨n3, hn3⟩ : ∃ n3, n = n3 + 1 := ⟨n - 1, by omega⟩
  subst hn3
  refine ⟨_, n3, R38_nam X h2 h3 hk (by omega), by omega, M21_a, fun k hk => ?_, fun k hk => by rw [bA_2 (by decide)], ?_⟩
  · rw [bA_e (by omega), if_neg (by omega)]
  · rw [bA_e (by omega), if_pos rfl, hnn k hk hw]⟩⟩
/-- of one -/
theorem RV_1 {op : Int} {F : Int → Int} (H : RV ow R u v d a nn V1) (huv : u ≤ v) (ho : R (2 * v) = op) (h1 : 1 < op) (h3 : ¬ op = 3) (h5 : op ≤ 5) (hF : ∀ (n : Nat) (m : bS), 100 ≤ n → m.2 0 = a → R_ofOne n m op V1 = some (r, m)) (D1 : d ≤ dep) (D2 : 2 ≤ dep) : RV ow R u (v + 1) dep a nn r := fun m cl cb n top tr X ha hnn t1 t2 hn => by
  obtain ⟨m1, n1, a1, a2, a3, a4, a5, a6⟩ := H m cl cb n top tr (X.sub (Nat.le_refl u) (by omega)) ha hnn (by omega) (by omega) (by omega)
  obtain ⟨n3, hn3⟩ : ∃ n3, n1 = n3 + 1 := ⟨n1 - 1, by omega⟩
  subst hn3
  have e := R38_one (n := n3) (tr := tr) (top := top) (y := r) ((X.mm a3).sub (u' := v) huv (Nat.le_refl _)) ho h1 h3 h5 (by omega) (by rw [a6]; exact hF n3 m1 (by omega) ((a3.2 0 (by decide) (by decide)).trans ha))
  refine ⟨bA m1 21 (top : Int) r, n3, a1.trans e, by omega, a3.trans M21_a, fun k hk => ?_, fun k hk => by rw [bA_2 (by decide)]; exact a5 k hk, ?_⟩
  · rw [bA_e (by omega), if_neg (by omega), a4 k hk]
  · rw [bA_e (by omega), if_pos rfl]
theorem SN_has (H : SN ow C i j R u v d) (hc : (C j = 4 ∧ R (2 * v) = 2) ∨ (C j = 5 ∧ R (2 * v) = 4)) (D1 : d ≤ dep) (D2 : 2 ≤ dep) : SN ow C i (j + 2) R u (v + 1) dep := ⟨⟨by have := H.1; omega, by have := H.1; omega⟩, fun w a nn E N => by
  obtain ⟨V, hV, h1, h2⟩ := H.2 w a nn E N
  rcases hc with ⟨c1, c2⟩ | ⟨c1, c2⟩
  · have := hsv_in (w := w) (v := V) (row := 6)
    exact ⟨hsv w 6 V, by omega, CV_h (op := 4) h1 H.1.1 c1 (Or.inl ⟨rfl, rfl⟩) hV D1 D2, RV_1 (F := fun x => x) h2 H.1.2 c2 (by decide) (by decide) (by decide) (fun n m hn hm => (E n m V hn hm hV.1 hV.2).1) D1 D2⟩
  · have := hsv_in (w := w) (v := V) (row := 7)
    exact ⟨hsv w 7 V, by omega, CV_h (op := 5) h1 H.1.1 c1 (Or.inr ⟨rfl, rfl⟩) hV D1 D2, RV_1 (F := fun x => x) h2 H.1.2 c2 (by decide) (by decide) (by decide) (fun n m hn hm => (E n m V hn hm hV.1 hV.2).2) D1 D2⟩⟩
theorem SN_neg (H : SN ow C i j R u v d) (c1 : C j = 6) (c2 : R (2 * v) = 5) (D1 : d ≤ dep) (D2 : 2 ≤ dep) : SN ow C i (j + 2) R u (v + 1) dep := ⟨⟨by have := H.1; omega, by have := H.1; omega⟩, fun w a nn E N => by
  obtain ⟨V, hV, h1, h2⟩ := H.2 w a nn E N
  have eW : ay_W (-V) = -V := ay_Wi (by omega) (by omega)
  have hc := CV_1 (op := 6) (r := ay_W (-V)) (dep := dep) h1 H.1.1 c1 (by decide) (by decide) D1 D2 (fun t x k6 n s l3 l5 l6 l8 l11 f => rfl)
  rw [eW, clp_id (by omega) (by omega)] at hc
  refine ⟨-V, by omega, hc, RV_1 (F := fun x => x) h2 H.1.2 c2 (by decide) (by decide) (by decide) (fun n m hn hm => ?_) D1 D2⟩
  show some (ay_W (-V), m) = some (-V, m)
  rw [eW]⟩
/-- of two -/
theorem SN_ar (H : SN ow C i j R u v d1) (H' : SN ow C j k R v y d2) (hop : op = 8 ∨ op = 9 ∨ op = 10 ∨ op = 11) (c1 : C k = (op : Int)) (c2 : R (2 * y) = (op : Int) - 2) (D1 : d1 ≤ dep) (D2 : d2 + 1 ≤ dep) (D3 : 3 ≤ dep) : SN ow C i (k + 2) R u (y + 1) dep := ⟨⟨by have := H.1; have := H'.1; omega, by have := H.1; have := H'.1; omega⟩, fun w a nn E N => by
  obtain ⟨V1, hV1, h1, h2⟩ := H.2 w a nn E N
  obtain ⟨V2, hV2, h3, h4⟩ := H'.2 w a nn E N
  have := H.1
  have := H'.1
  refine ⟨clp (arv op V1 V2), clp_in, CV_2 h1 h3 H.1.1 H'.1.1 c1 (by omega) D1 D2 D3 (fun t x k6 n s l3 l5 l6 l8 f => A191_ar hop), fun m cl cb n top tr X ha hnn t1 t2 hn => ?_⟩
  obtain ⟨m1, n1, a1, a2, a3, a4, a5, a6⟩ := h2 m cl cb n top tr (X.sub (Nat.le_refl u) (by omega)) ha hnn (by omega) (by omega) (by omega)
  obtain ⟨m2, n2, b1, b2, b3, b4, b5, b6⟩ := h4 m1 cl cb n1 (top + 1) tr ((X.mm a3).sub (by omega) (by omega)) ((a3.2 0 (by decide) (by decide)).trans ha) (fun k hk ho => by rw [a3.2 20 (by decide) (by decide)]; exact hnn k hk ho) (by omega) (by omega) (by omega)
  obtain ⟨n3, hn3⟩ : ∃ n3, n2 = n3 + 1 := ⟨n2 - 1, by omega⟩
  subst hn3
  have v1 : m2.2 21 top = V1 := by rw [b4 top (by omega)]; exact a6
  have e := R38_two (n := n3) (tr := tr) (top := top) (y := clp (arv op V1 V2)) (((X.mm a3).mm b3).sub (u' := y) (by omega) (Nat.le_refl _)) c2 (by omega) (by omega) (by omega) (by rw [v1, b6]; exact two_ok hop)
  refine ⟨_, n3, (a1.trans b1).trans e, by omega, (a3.trans b3).trans M21_a, fun k hk => ?_, fun k hk => by rw [bA_2 (by decide), b5 k hk]; exact a5 k hk, ?_⟩
  · rw [bA_e (by omega), if_neg (by omega), b4 k (by omega), a4 k hk]
  · rw [bA_e (by omega), if_pos rfl]⟩
theorem SA_cm (H : SN ow C i j R u v d1) (H' : SN ow C j k R v y d2) (o1 : 12 ≤ op) (o2 : op ≤ 17) (c1 : C k = (op : Int)) (c2 : R (2 * y) = (op : Int) - 2) (D1 : d1 ≤ dep) (D2 : d2 + 1 ≤ dep) (D3 : 3 ≤ dep) : SA ow C i (k + 2) R u (y + 1) dep := ⟨⟨by have := H.1; have := H'.1; omega, by have := H.1; have := H'.1; omega⟩, fun w a nn E N => by
  obtain ⟨V1, hV1, h1, h2⟩ := H.2 w a nn E N
  obtain ⟨V2, hV2, h3, h4⟩ := H'.2 w a nn E N
  have := H.1
  have := H'.1
  have hc := CV_2 (dep := dep) (r := bi (cmv op V1 V2)) h1 h3 H.1.1 H'.1.1 c1 (by omega) D1 D2 D3 (fun t x k6 n s l3 l5 l6 l8 f => A191_cm o1 o2)
  rw [clp_bi] at hc
  refine ⟨cmv op V1 V2, hc, fun m cl cb n top tr X ha hnn t1 t2 hn => ?_⟩
  obtain ⟨m1, n1, a1, a2, a3, a4, a5, a6⟩ := h2 m cl cb n top tr (X.sub (Nat.le_refl u) (by omega)) ha hnn (by omega) (by omega) (by omega)
  obtain ⟨m2, n2, b1, b2, b3, b4, b5, b6⟩ := h4 m1 cl cb n1 (top + 1) tr ((X.mm a3).sub (by omega) (by omega)) ((a3.2 0 (by decide) (by decide)).trans ha) (fun k hk ho => by rw [a3.2 20 (by decide) (by decide)]; exact hnn k hk ho) (by omega) (by omega) (by omega)
  obtain ⟨n3, hn3⟩ : ∃ n3, n2 = n3 + 1 := ⟨n2 - 1, by omega⟩
  subst hn3
  have v1 : m2.2 21 top = V1 := by rw [b4 top (by omega)]; exact a6
  have e := R38_ask (n := n3) (tr := tr) (top := top) (A := cmv op V1 V2) (((X.mm a3).mm b3).sub (u' := y) (by omega) (Nat.le_refl _)) c2 (by omega) (by omega) (by omega) (by omega) (by rw [v1, b6]; exact ask_ok o1 o2)
  refine ⟨_, n3, (a1.trans b1).trans e, by omega, (a3.trans b3).trans M21_b, fun k hk => by rw [bA_2 (by decide), b4 k (by omega)]; exact a4 k hk, fun k hk => ?_, ?_⟩
  · rw [bA_e (by omega), if_neg (by omega), b5 k (by omega), a5 k hk]
  · rw [bA_e (by omega), if_pos rfl]⟩
theorem SA_not (H : SA ow C i j R u v d) (c1 : C j = 7) (c2 : R (2 * v) = 20) (D1 : d ≤ dep) (D2 : 2 ≤ dep) : SA ow C i (j + 2) R u (v + 1) dep := ⟨⟨by have := H.1; omega, by have := H.1; omega⟩, fun w a nn E N => by
  obtain ⟨B, h1, h2⟩ := H.2 w a nn E N
  have := H.1
  have hc := CV_1 (op := 7) (r := ay_W (1 - bi B)) (dep := dep) h1 H.1.1 c1 (by decide) (by decide) D1 D2 (fun t x k6 n s l3 l5 l6 l8 l11 f => rfl)
  rw [not_bi, clp_bi] at hc
  refine ⟨!B, hc, fun m cl cb n top tr X ha hnn t1 t2 hn => ?_⟩
  obtain ⟨m1, n1, a1, a2, a3, a4, a5, a6⟩ := h2 m cl cb n top tr (X.sub (Nat.le_refl u) (by omega)) ha hnn (by omega) (by omega) (by omega)
  obtain ⟨n3, hn3⟩ : ∃ n3, n1 = n3 + 1 := ⟨n1 - 1, by omega⟩
  subst hn3
  have e := R38_not (n := n3) (tr := tr) (top := top) (A := B) ((X.mm a3).sub (u' := v) (by omega) (Nat.le_refl _)) c2 (by omega) a6
  refine ⟨_, n3, a1.trans e, by omega, a3.trans M21_b, fun k hk => by rw [bA_2 (by decide)]; exact a4 k hk, fun k hk => ?_, ?_⟩
  · rw [bA_e (by omega), if_neg (by omega), a5 k hk]
  · rw [bA_e (by omega), if_pos rfl]⟩
theorem SA_jn (H : SA ow C i j R u v d1) (H' : SA ow C j k R v y d2) (hop : (C k = 18 ∧ R (2 * y) = 21) ∨ (C k = 19 ∧ R (2 * y) = 22)) (D1 : d1 ≤ dep) (D2 : d2 + 1 ≤ dep) (D3 : 3 ≤ dep) : SA ow C i (k + 2) R u (y + 1) dep := ⟨⟨by have := H.1; have := H'.1; omega, by have := H.1; have := H'.1; omega⟩, fun w a nn E N => by
  obtain ⟨A, h1, h2⟩ := H.2 w a nn E N
  obtain ⟨B, h3, h4⟩ := H'.2 w a nn E N
  have := H.1
  have := H'.1
  obtain ⟨F, ov, hC, c2, o2, hj⟩ : ∃ (F : Bool) (ov : Int), CV ow C i (k + 2) dep w nn (bi F) ∧ R (2 * y) = ov ∧ 20 < ov ∧ ∀ n, R_joined n ov (bi A) (bi B) = some (bi F) := by
    rcases hop with ⟨c1, c2⟩ | ⟨c1, c2⟩
    · have hc := CV_2 (op := 18) (dep := dep) (r := ay_land (bi A) (bi B)) h1 h3 H.1.1 H'.1.1 c1 (by omega) D1 D2 D3 (fun t x k6 n s l3 l5 l6 l8 f => rfl)
      rw [land_bi, clp_bi] at hc
      exact ⟨A && B, 21, hc, c2, by decide, fun n => and_ok⟩
    · have hc := CV_2 (op := 19) (dep := dep) (r := ay_lor (bi A) (bi B)) h1 h3 H.1.1 H'.1.1 c1 (by omega) D1 D2 D3 (fun t x k6 n s l3 l5 l6 l8 f => rfl)
      rw [lor_bi, clp_bi] at hc
      exact ⟨A || B, 22, hc, c2, by decide, fun n => or_ok⟩
  refine ⟨F, hC, fun m cl cb n top tr X ha hnn t1 t2 hn => ?_⟩
  obtain ⟨m1, n1, a1, a2, a3, a4, a5, a6⟩ := h2 m cl cb n top tr (X.sub (Nat.le_refl u) (by omega)) ha hnn (by omega) (by omega) (by omega)
  obtain ⟨m2, n2, b1, b2, b3, b4, b5, b6⟩ := h4 m1 cl cb n1 top (tr + 1) ((X.mm a3).sub (by omega) (by omega)) ((a3.2 0 (by decide) (by decide)).trans ha) (fun k hk ho => by rw [a3.2 20 (by decide) (by decide)]; exact hnn k hk ho) (by omega) (by omega) (by omega)
  obtain ⟨n3, hn3⟩ : ∃ n3, n2 = n3 + 1 := ⟨n2 - 1, by omega⟩
  subst hn3
  have v1 : m2.2 22 tr = bi A := by rw [b5 tr (by omega)]; exact a6
  have e := R38_join (n := n3) (tr := tr) (top := top) (A := F) (((X.mm a3).mm b3).sub (u' := y) (by omega) (Nat.le_refl _)) c2 o2 (by omega) (by rw [v1, b6]; exact hj n3)
  refine ⟨_, n3, (a1.trans b1).trans e, by omega, (a3.trans b3).trans M21_b, fun k hk => by rw [bA_2 (by decide), b4 k hk]; exact a4 k hk, fun k hk => ?_, ?_⟩
  · rw [bA_e (by omega), if_neg (by omega), b5 k (by omega), a5 k hk]
  · rw [bA_e (by omega), if_pos rfl]⟩
/-- a choice -/
theorem SN_if {k1 k2 y2 : Nat} (H : SA ow C i j R u v d1) (H1 : SN ow C (j + 2) k1 R v y d2) (H2 : SN ow C (k1 + 2) k2 R y y2 d3) (c1 : C j = 3) (c2 : C (j + 1) = ((k1 + 2 : Nat) : Int)) (c3 : C k1 = 2) (c4 : C (k1 + 1) = (k2 : Int)) (c5 : R (2 * y2) = 3) (D1 : d1 ≤ dep) (D2 : d2 + 1 ≤ dep) (D3 : d3 + 1 ≤ dep) (D4 : 3 ≤ dep) : SN ow C i k2 R u (y2 + 1) dep := ⟨⟨by have := H.1; have := H1.1; have := H2.1; omega, by have := H.1; have := H1.1; have := H2.1; omega⟩, fun w a nn E N => by
  obtain ⟨B, h1, h2⟩ := H.2 w a nn E N
  obtain ⟨V1, hV1, h3, h4⟩ := H1.2 w a nn E N
  obtain ⟨V2, hV2, h5, h6⟩ := H2.2 w a nn E N
  have q0 := H.1
  have q1 := H1.1
  have q2 := H2.1
  refine ⟨if B = true then V1 else V2, by cases B; exact hV2; exact hV1, fun x t kk xx to n top X hnn ht hn => ?_, fun m cl cb n top tr X ha hnn t1 t2 hn => ?_⟩
  · obtain ⟨xx1, n1, a1, a2, a3, a4, a5⟩ := h1 x t kk xx to n top (X.sub (Nat.le_refl i) (by omega)) hnn (by omega) (by omega)
    obtain ⟨n3, hn3⟩ : ∃ n3, n1 = n3 + 1 := ⟨n1 - 1, by omega⟩
    subst hn3
    have e := A_unl (t := t) (kk := kk) (w := w) (xx := xx1) (n := n3) (top := top) (i := j) (X.sub (by omega) (by omega)) c1 c2 (by omega) (by omega)
    cases B
    · rw [a5, if_pos (show bi false = 0 from rfl)] at e
      obtain ⟨xx2, n2, b1, b2, b3, b4, b5⟩ := h5 x t kk xx1 to n3 top (X.sub (by omega) (Nat.le_refl _)) a3 (by omega) (by omega)
      exact ⟨xx2, n2, (a1.trans e).trans b1, by omega, b3, fun k hk => by rw [b4 k hk, a4 k hk], b5⟩
    · rw [a5, if_neg (show ¬ bi true = 0 by decide)] at e
      obtain ⟨xx2, n2, b1, b2, b3, b4, b5⟩ := h3 x t kk xx1 to n3 top (X.sub (by omega) (by omega)) a3 (by omega) (by omega)
      obtain ⟨n4, hn4⟩ : ∃ n4, n2 = n4 + 1 := ⟨n2 - 1, by omega⟩
      subst hn4
      have e' := A_jump (t := t) (kk := kk) (w := w) (xx := xx2) (n := n4) (top := top + 1) (i := k1) (X.sub (by omega) (by omega)) c3 c4 (by omega) (by omega)
      exact ⟨xx2, n4, ((a1.trans e).trans b1).trans e', by omega, b3, fun k hk => by rw [b4 k hk, a4 k hk], b5⟩
  · obtain ⟨m1, n1, a1, a2, a3, a4, a5, a6⟩ := h2 m cl cb n top tr (X.sub (Nat.le_refl u) (by omega)) ha hnn (by omega) (by omega) (by omega)
    obtain ⟨m2, n2, b1, b2, b3, b4, b5, b6⟩ := h4 m1 cl cb n1 top (tr + 1) ((X.mm a3).sub (by omega) (by omega)) ((a3.2 0 (by decide) (by decide)).trans ha) (fun k hk ho => by rw [a3.2 20 (by decide) (by decide)]; exact hnn k hk ho) (by omega) (by omega) (by omega)
    have M2 := a3.trans b3
    obtain ⟨m3, n4, g1, g2, g3, g4, g5, g6⟩ := h6 m2 cl cb n2 (top + 1) (tr + 1) ((X.mm M2).sub (by omega) (by omega)) ((M2.2 0 (by decide) (by decide)).trans ha) (fun k hk ho => by rw [M2.2 20 (by decide) (by decide)]; exact hnn k hk ho) (by omega) (by omega) (by omega)
    have M3 := M2.trans g3
    obtain ⟨n3, hn3⟩ : ∃ n3, n4 = n3 + 1 := ⟨n4 - 1, by omega⟩
    subst hn3
    have e := R38_sel (n := n3) (tr := tr) (top := top) ((X.mm M3).sub (u' := y2) (by omega) (Nat.le_refl _)) c5 (by omega) (by omega)
    have vB : m3.2 22 tr = bi B := by rw [g5 tr (by omega), b5 tr (by omega)]; exact a6
    have vt : m3.2 21 top = V1 := by rw [g4 top (by omega)]; exact b6
    rw [vB, g6] at e
    cases B
    · rw [if_pos (show bi false = 0 from rfl)] at e
      refine ⟨_, n3, ((a1.trans b1).trans g1).trans e, by omega, M3.trans M21_a, fun k hk => ?_, fun k hk => ?_, ?_⟩
      · rw [bA_e (by omega), if_neg (by omega), g4 k (by omega), b4 k hk, a4 k hk]
      · rw [bA_2 (by decide), g5 k (by omega), b5 k (by omega), a5 k hk]
      · rw [bA_e (by omega), if_pos rfl]; rfl
    · rw [if_neg (show ¬ bi true = 0 by decide)] at e
      refine ⟨m3, n3, ((a1.trans b1).trans g1).trans e, by omega, M3, fun k hk => ?_, fun k hk => ?_, vt⟩
      · rw [g4 k (by omega), b4 k hk, a4 k hk]
      · rw [g5 k (by omega), b5 k (by omega), a5 k hk]⟩
end
