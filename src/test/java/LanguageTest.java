import java.util.Random;

/** Promises 3 to 7, 40, 41: the tape, texts, their faults and what their laws say. */
public final class LanguageTest {
    private static final int[] EDGES = {Integer.MIN_VALUE, -3, -2, -1, 4, 64, Integer.MAX_VALUE};

    public static void main(String[] args) {
        tape();
        texts();
        faults();
        depth();
        clauses();
        sums();
        names();
        oneBehindTheOther();
        ruling();
        drawn();
        Desk.close("LanguageTest");
    }

    private static void tape() {
        LargePages x = new LargePages();
        Desk.due("about(5)", x.about(5), 0);
        for (int i = 1; i <= 15; i++) {
            Desk.due("feed", x.feed(0x64617920, 0x313B2020, 0x20202020, 0x20202020, 0x20202020), 20 * i);
        }
        Desk.due("feed beyond 300", x.feed(1, 2, 3, 4, 5), -1);
        Desk.due("about(5)", x.about(5), 300);
        Desk.due("end(301)", x.end(301), -1);
        Desk.due("end(-1)", x.end(-1), -1);
        Desk.due("end(MIN)", x.end(Integer.MIN_VALUE), -1);
        Desk.due("end(MAX)", x.end(Integer.MAX_VALUE), -1);
        Desk.due("about(5)", x.about(5), 300);
        Desk.due("end(300)", x.end(300), 300);
        Desk.due("end(281)", x.end(281), 281);
        Desk.due("feed beyond 300 by one", x.feed(0, 0, 0, 0, 0), -1);
        Desk.due("end(280)", x.end(280), 280);
        Desk.due("feed to 300", x.feed(0x20202020, 0x20202020, 0x20202020, 0x20202020, 0x20202020), 300);
        Desk.due("text of 15 days", x.text(), 0);
        Desk.due("about(5)", x.about(5), 0);
        Desk.due("feed", x.feed(0x20203F20, 0, 0, 0, 0xFFFFFFFF), 20);
        Desk.due("text", x.text(), -1);
        Desk.due("the highest byte is first", x.fault(1), 2);
    }

    private static void texts() {
        LargePages x = new LargePages();
        Desk.due("fault(0) ahead of any", x.fault(0), -1);
        Desk.due("fault(1) ahead of any", x.fault(1), -1);
        Desk.due("an empty text", x.text(), 0);
        Desk.due("fault(0)", x.fault(0), 0);
        Desk.due("fault(1)", x.fault(1), -1);
        Desk.due("fault(2)", x.fault(2), -1);
        Desk.due("fault(-1)", x.fault(-1), -1);
        Desk.due("blanks alone", Desk.text(x, " \n \n"), 1);
        Desk.due("a fault", Desk.text(x, "day 1; day"), -1);
        Desk.due("fault(0)", x.fault(0), 1);
        Desk.due("fault(1)", x.fault(1), 10);
        Desk.due("fault(2)", x.fault(2), -1);
        Desk.due("the tape is empty behind a fault", x.about(5), 0);
        Desk.due("about(1)", x.about(1), 2);
        Desk.due("third", Desk.text(x, "day 1;"), 2);
        Desk.due("fourth", Desk.text(x, "day 2;"), 3);
        Desk.due("about(1)", x.about(1), 4);
        Desk.due("a fifth", Desk.text(x, "day 99;"), -1);
        Desk.due("the tape stays", x.about(5), 7);
        Desk.due("it was not read", x.fault(0), 0);
        x.back();
        Desk.due("the tape is not in the image", x.about(5), 7);
        Desk.due("the fault is not in the image", x.fault(0), 0);
        Desk.due("texts are", x.about(1), 0);
        Desk.due("read then", x.text(), -1);
        Desk.due("fault(0)", x.fault(0), 2);
        Desk.due("fault(1)", x.fault(1), 4);
    }

    private static void fault(String text, int what, int place) {
        LargePages x = new LargePages();
        Desk.due("text of " + text, Desk.text(x, text), what == 0 ? 0 : -1);
        Desk.due("fault(0) of " + text, x.fault(0), what);
        Desk.due("fault(1) of " + text, x.fault(1), place);
    }

    private static void good(String text) {
        fault(text, 0, -1);
    }

    private static void faults() {
        good("wants 1;spares 2;object 1;touch 31 of 3;write 0 of 0 by 99;sweep 3;empty 16;drop 0;day 60;");
        good("wants\n1 ;\n object 007; empty 3;");
        good("object 32;object 00000000000000000000032;");
        good("wants 9999;spares 0;");
        good("spares 1;wants 1;");
        good("day1;touch1of2;");
        good("wants if 1<2 then 3 else 4 end;");
        good("wants if not not 1<=2 and 3#4 or 5=6 and 7>=8 or 9>1 then 1 else 2 end*2;");
        good("wants time+free+number+size+page;spares time+free+number+size+idle+holds+span;");
        fault("wants 1<2;", 1, 7);
        fault("wants;", 1, 5);
        fault("wants ();", 1, 7);
        fault("wants 1 1;", 1, 8);
        fault("wants 1", 1, 7);
        fault("wants 1   ", 1, 10);
        fault("wants (1;", 1, 8);
        fault("wants 1);", 1, 7);
        fault("wants 1+;", 1, 8);
        fault("wants +1;", 1, 6);
        fault("wants 2*-;", 1, 9);
        fault("wants if 1<2 then 3 else 4;", 1, 26);
        fault("wants if 1<2 then 3 end;", 1, 20);
        fault("wants if 1<2 else 3 end;", 1, 13);
        fault("wants if (1<2) then 1 else 2 end;", 1, 11);
        fault("wants if 1< =2 then 1 else 2 end;", 1, 12);
        fault("wants if 1<2<3 then 1 else 2 end;", 1, 12);
        fault("wants if 1 then 1 else 2 end;", 1, 11);
        fault("wants not 1;", 1, 6);
        fault("wants foo;", 1, 6);
        fault("wants Time;", 1, 6);
        fault("wants timefree;", 1, 6);
        fault("wants object;", 1, 6);
        fault("wants 1\t;", 1, 7);
        fault("wants 1\r\n;", 1, 7);
        fault("wants 1 ?;", 1, 8);
        fault("wants 1;\u0000", 1, 8);
        fault("\u00e9", 1, 0);
        fault("Wants 1;", 1, 0);
        fault(";", 1, 0);
        fault("1;", 1, 0);
        fault("of 1;", 1, 0);
        fault("object size;", 1, 7);
        fault("object 1+1;", 1, 8);
        fault("object -1;", 1, 7);
        fault("touch 1 by 2;", 1, 8);
        fault("touch 1;", 1, 7);
        fault("write 1 of 2 of 3;", 1, 13);
        fault("sweep;", 1, 5);
        fault("day 1 day 2;", 1, 6);
        fault("object 0;", 2, 7);
        fault("object 33;", 2, 7);
        fault("object 99999999999999999999999;", 2, 7);
        fault("touch 32 of 0;", 2, 6);
        fault("touch 0 of 4;", 2, 11);
        fault("write 32 of 9 by 100;", 2, 6);
        fault("write 0 of 0 by 100;", 2, 16);
        fault("sweep 4;", 2, 6);
        fault("drop 4;", 2, 5);
        fault("empty 0;", 2, 6);
        fault("empty 17;", 2, 6);
        fault("day 0;", 2, 4);
        fault("day 61;", 2, 4);
        fault("wants 10000;", 2, 6);
        fault("wants 4294967296;", 2, 6);
        fault("wants 1 10000;", 1, 8);
        fault("10000", 1, 0);
        fault("wants 1;spares 1;wants 2;", 4, 17);
        fault("spares 1;spares ?;", 4, 9);
        fault("wants idle;", 5, 6);
        fault("wants 1+holds;", 5, 8);
        fault("wants span ?;", 5, 6);
        fault("spares page;", 5, 7);
        fault("spares has page;", 5, 11);
        fault("wants 1 idle;", 1, 8);
        fault("wantsA 1;", 1, 0);
        fault("wantsZ 1;", 1, 0);
        fault("wantsa 1;", 1, 0);
        fault("wantsz 1;", 1, 0);
        fault("wants 1[;", 1, 7);
        fault("wants 1`;", 1, 7);
        fault("wants 1{;", 1, 7);
        fault("wants 1@;", 1, 7);
        fault("wants 1:;", 1, 7);
        fault(";".repeat(300), 1, 0);
        fault("wants " + "(".repeat(294), 3, 14);
        fault("day 1;" + " ".repeat(293) + "?", 1, 299);
        good("day 1;" + " ".repeat(294));
    }

    private static void depth() {
        String eight = "((((((((";
        good("wants " + eight + "1))))))));");
        fault("wants (" + eight + "1)))))))));", 3, 14);
        good("wants --------1;");
        fault("wants ---------1;", 3, 14);
        good("wants has has has has soiled soiled soiled soiled 1;");
        fault("wants has has has has soiled soiled soiled soiled -1;", 3, 50);
        good("wants if not not not not not not not 1<2 then 1 else 2 end;");
        fault("wants if not not not not not not not not 1<2 then 1 else 2 end;", 3, 37);
        fault("wants if not not not not not not not 1<(2) then 1 else 2 end;", 3, 39);
        good("wants if not not not not not not not 1<2 and not not not not not not not 1<2 then (1) else (2) end;");
        good("wants (1)+(2)+(3)+(4)+(5)+(6)+(7)+(8)+(9)+(10);");
        good("wants 1--1--1--1--1--1--1--1--1--1;");
        good("wants " + eight + "1-1))))))));");
        fault("wants " + eight + "-1))))))));", 3, 14);
        fault("wants " + eight + "if 1<2 then 1 else 2 end))))))));", 3, 14);
        fault("wants " + eight + ";", 1, 14);
        fault("wants " + eight + "not 1))))))));", 1, 14);
        fault("wants (" + eight + "1", 3, 14);
    }

    private static void clauses() {
        String day = "day 1;";
        good(day.repeat(24));
        good(day.repeat(23) + "wants 1;");
        fault(day.repeat(24) + "day", 6, 144);
        fault(day.repeat(24) + "wants 1;", 6, 144);
        fault(day.repeat(24) + "of", 1, 144);
        fault("wants 1;" + day.repeat(23) + "wants 2;", 4, 146);
        fault("wants 1;" + day.repeat(23) + "spares 2;", 6, 146);
        fault(day.repeat(24) + " ?", 1, 145);
        good(day.repeat(24) + " \n ");
    }

    private static void wants(String sum, int due) {
        LargePages x = Desk.with(20, 8);
        x.touch(0, 3);
        x.touch(0, 5);
        x.write(0, 4, 6);
        x.touch(1, 1);
        Desk.due("text of wants " + sum, Desk.text(x, "wants " + sum + ";"), 0);
        x.by(0);
        Desk.due("wants(0, 7) by " + sum, x.wants(0, 7), due);
    }

    private static void sums() {
        wants("0", 1);
        wants("17", 16);
        wants("16", 16);
        wants("-3", 1);
        wants("20-5-3", 12);
        wants("2+3*4", 14);
        wants("(2+1)*4", 12);
        wants("100/5*2/4", 10);
        wants("7/2", 3);
        wants("(0-7)/2+8", 5);
        wants("-7/2+8", 5);
        wants("7/-2+8", 5);
        wants("5/0+3", 3);
        wants("5/(1-1)+3", 3);
        wants("9999*9999-999*1001", 1);
        wants("9999*9999/1000/100", 10);
        wants("9999*9999-9999*100-90", 10);
        wants("0-9999*9999+9999*100+107", 7);
        wants("-(9999*9999)+9999*100+107", 7);
        wants("9999*100+9999-9999*100-93", 7);
        wants("--5", 5);
        wants("3--5", 8);
        wants("if 1<2 then 5 else 6 end", 5);
        wants("if 2<2 then 5 else 6 end", 6);
        wants("if 2<=2 then 5 else 6 end", 5);
        wants("if 2>2 then 5 else 6 end", 6);
        wants("if 2>=2 then 5 else 6 end", 5);
        wants("if 2=2 then 5 else 6 end", 5);
        wants("if 2#2 then 5 else 6 end", 6);
        for (String sign : new String[] {"<", "<=", ">", ">=", "=", "#"}) {
            for (int left = 1; left < 4; left++) {
                boolean so = sign.equals("<") ? left < 2 : sign.equals("<=") ? left <= 2 : sign.equals(">") ? left > 2
                        : sign.equals(">=") ? left >= 2 : sign.equals("=") ? left == 2 : left != 2;
                wants("if " + left + sign + "2 then 5 else 6 end", so ? 5 : 6);
                wants("if not " + left + sign + "2 then 5 else 6 end", so ? 6 : 5);
                wants("if not not " + left + sign + "2 then 5 else 6 end", so ? 5 : 6);
            }
        }
        wants("1-1+".repeat(71) + "9", 9);
        wants("1+1*if 1=2 or 1=1 and 1<1*".repeat(5) + "2" + " then 2 else 9 end".repeat(5), 3);
        wants("if not not 2=2 then 5 else 6 end", 5);
        wants("if 1=1 or 1=2 and 1=2 then 5 else 6 end", 5);
        wants("if 1=2 and 1=1 or 1=2 then 5 else 6 end", 6);
        wants("if not 1=1 or 1=1 then 5 else 6 end", 5);
        wants("if not 1=2 and 1=2 then 5 else 6 end", 6);
        wants("if 1=1 then if 1=2 then 2 else 3 end else 4 end+1", 4);
        wants("if 1=2 then 9 else if 1=2 then 2 else 3 end end*2", 6);
        wants("if 1=1 then 1 else 2 end+if 1=2 then 3 else 4 end", 5);
        wants("1+2*if 3<4 then 5 else 6 end-1", 10);
    }

    private static void names() {
        wants("has 0", 3);
        wants("has 1", 1);
        wants("has 2+5", 5);
        wants("has 4+5", 5);
        wants("has -1+5", 5);
        wants("has 9999+5", 5);
        wants("soiled 0+4", 5);
        wants("soiled 1+4", 4);
        wants("soiled 3+4", 4);
        wants("soiled 4+4", 4);
        wants("soiled -1+4", 4);
        wants("has 0*2", 6);
        wants("has has 3", 3);
        wants("has soiled 0", 1);
        wants("time", 4);
        wants("free/10", 4);
        wants("number+3", 3);
        wants("size-9", 11);
        wants("page", 7);
        LargePages x = Desk.with(20, 8);
        x.touch(0, 3);
        x.touch(1, 5);
        x.touch(1, 6);
        Desk.law(x, "spares idle-3;wants number+size;");
        Desk.due("wants(1, 0)", x.wants(1, 0), 9);
        Desk.due("wants(0, 0)", x.wants(0, 0), 16);
        Desk.due("idle of the first is 3", x.spares(0), false);
        Desk.due("idle of the second is 1", x.spares(1), false);
        Desk.law(x, "spares idle-2;");
        Desk.due("idle of the first is 3", x.spares(0), true);
        Desk.law(x, "spares holds-1;");
        Desk.due("the first holds 1", x.spares(0), false);
        Desk.due("the second holds 2", x.spares(1), true);
        Desk.law(x, "spares if number=1 and size=8 and span=4 and time=3 and free=44 then 1 else 0-1 end;");
        Desk.due("the first", x.spares(0), false);
        Desk.due("the second", x.spares(1), true);
        for (int i : EDGES) {
            Desk.due("spares(" + i + ")", x.spares(i), false);
            Desk.due("wants(" + i + ", 0)", x.wants(i, 0), -1);
            Desk.due("wants(1, " + i + ")", x.wants(1, i), i == 4 ? 16 : -1);
        }
        Desk.due("wants(1, 8)", x.wants(1, 8), -1);
        Desk.due("spares(2)", x.spares(2), false);
    }

    /** What one text has left behind must not reach into the next. */
    private static void oneBehindTheOther() {
        LargePages x = Desk.with(8);
        for (int i = 0; i < 4; i++) {
            Desk.due("text", Desk.text(x, "wants " + "1-1+".repeat(71) + (i + 2) + ";"), i);
            Desk.text(x, "wants 1;spares 5;day 1;day 61;");
        }
        for (int i = 0; i < 4; i++) {
            x.by(i);
            Desk.due("wants", x.wants(0, 0), i + 2);
            Desk.due("played", x.played(i), -1);
            Desk.due("day", x.is(2), 0);
        }
    }

    private static void ruling() {
        LargePages x = Desk.with(8);
        Desk.due("by(0) without texts", x.by(0), false);
        Desk.due("by(NONE)", x.by(-1), true);
        Desk.due("about(2)", x.about(2), -1);
        Desk.text(x, "wants 3;");
        Desk.text(x, "spares 0;");
        Desk.due("nothing rules yet", x.wants(0, 0), 16);
        Desk.due("by(0)", x.by(0), true);
        Desk.due("about(2)", x.about(2), 0);
        Desk.due("wants", x.wants(0, 0), 3);
        for (int i : new int[] {Integer.MIN_VALUE, -2, 2, 3, 4, Integer.MAX_VALUE}) {
            Desk.due("by(" + i + ")", x.by(i), false);
        }
        Desk.due("about(2)", x.about(2), 0);
        x.touch(0, 0);
        Desk.due("spares without a law", x.spares(0), true);
        Desk.due("by(1)", x.by(1), true);
        Desk.due("wants without a law", x.wants(0, 0), 16);
        Desk.due("spares 0", x.spares(0), false);
        Desk.due("by(NONE)", x.by(-1), true);
        Desk.due("spares without a text", x.spares(0), true);
        x.by(1);
        x.undo();
        Desk.due("what is told stays when a step is taken back", x.about(2), 1);
        x.back();
        Desk.due("but not on the way back to the image", x.about(2), -1);
    }

    /** Drawn texts, whole and spoilt, held against the model's reader. */
    private static void drawn() {
        String[] bits = {"wants ", "spares ", "object ", "day ", "of ", "by ", "has ", "soiled ", "if ", "then ",
            "else ", "end ", "or ", "and ", "not ", "time ", "page ", "idle ", "span ", "(", ")", ";", "<", "<=", "=",
            "#", "+", "-", "*", "/", "1", "10000", "9999", "0", " ", "\n", "?", "x", "not not not ", "((((", "----"};
        Random random = new Random(7);
        for (int i = 0; i < 20000; i++) {
            StringBuilder b = new StringBuilder(random.nextInt(4) == 0 ? "" : new Texts(random).text());
            for (int k = random.nextInt(4); k > 0; k--) {
                b.insert(random.nextInt(b.length() + 1), bits[random.nextInt(bits.length)]);
            }
            b.setLength(Math.min(300, b.length()));
            LargePages x = new LargePages();
            Model m = new Model();
            m.tape.append(b);
            Desk.due("text of " + b, Desk.text(x, b.toString()), m.text());
            Desk.due("fault(0) of " + b, x.fault(0), m.fault(0));
            Desk.due("fault(1) of " + b, x.fault(1), m.fault(1));
        }
    }
}
