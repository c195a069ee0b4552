import java.io.IOException;

/** The boundary cases of promises 3 to 7 and 40 to 43 and of the terms of texts (II, IV), sentence by sentence. */
public final class TextEdgesTest {
    public static void main(String[] args) throws IOException {
        feeding();
        ending();
        reading();
        faultsOfTheLatest();
        ruling();
        tokens();
        clauses();
        sums();
        names();
        limits();
        faultPlaces();
        faultTwo();
        faultThree();
        faultsFourToSix();
        laws();
        wanting();
        sparing();
        saying();
        whose();
        Edge.close("TextEdgesTest");
    }

    private static void fault(String text, int what, int place) {
        LargePages x = new LargePages();
        Desk.due("text of " + text, Desk.text(x, text), what == 0 ? 0 : -1);
        Desk.due("fault(0) of " + text, x.fault(0), what);
        Desk.due("fault(1) of " + text, x.fault(1), place);
    }

    private static void good(String text) {
        fault(text, 0, -1);
    }

    /** What a law of an object of 20 wants of page 7, pages 3 and 5 being there and page 5 dirty. */
    private static void wants(String sum, int due) {
        LargePages x = Desk.with(20);
        x.touch(0, 3);
        x.write(0, 5, 9);
        Desk.law(x, "wants " + sum + ";");
        Desk.due("wants(0, 7) by " + sum, x.wants(0, 7), due);
    }

    private static int blanks(LargePages x) {
        return x.feed(0x20202020, 0x20202020, 0x20202020, 0x20202020, 0x20202020);
    }

    private static void feeding() {
        Edge.promise(3, "Twenty bytes come behind the tape, the highest of a first: how many it has.");
        for (int k = 0; k < 20; k++) {
            LargePages x = new LargePages();
            int[] w = new int[5];
            for (int i = 0; i < 20; i++) {
                w[i / 4] = w[i / 4] << 8 | (i == k ? 0xFF : 0x20);
            }
            Desk.due("the first twenty", blanks(x), 20);
            Desk.due("twenty more", x.feed(w[0], w[1], w[2], w[3], w[4]), 40);
            x.text();
            Desk.due("the place of byte " + k, x.fault(1), 20 + k);
        }

        Edge.promise(3, "NONE, and none come, if there would be more than 300.");
        LargePages x = new LargePages();
        for (int i = 1; i <= 15; i++) {
            Desk.due("feed", blanks(x), 20 * i);
        }
        Desk.due("300 are all", x.feed(-1, -1, -1, -1, -1), -1);
        Desk.due("none came", x.about(5), 300);
        Desk.due("one less is not enough", x.end(299), 299);
        Desk.due("one less is not enough", x.feed(-1, -1, -1, -1, -1), -1);
        Desk.due("281 and twenty are 301", x.end(281), 281);
        Desk.due("281 and twenty are 301", x.feed(-1, -1, -1, -1, -1), -1);
        Desk.due("none came", x.about(5), 281);
        Desk.due("280 and twenty are 300", x.end(280), 280);
        Desk.due("280 and twenty are 300", blanks(x), 300);
        Desk.due("blanks alone", x.text(), 0);
        Desk.due("the tape is empty: room again", blanks(x), 20);
    }

    private static void ending() {
        Edge.promise(4, "The tape has its first n bytes alone: n.");
        LargePages x = new LargePages();
        Desk.due("none of none", x.end(0), 0);
        // "day 1;?" and blanks
        x.feed(0x64617920, 0x313B3F20, 0x20202020, 0x20202020, 0x20202020);
        Desk.due("all", x.end(20), 20);
        Desk.due("all but one", x.end(19), 19);
        Desk.due("the first six", x.end(6), 6);
        Desk.due("they are six", x.about(5), 6);
        blanks(x);
        Desk.due("what was behind is gone", x.text(), 0);
        Desk.due("it is the day", x.played(0), -1);
        Desk.due("it is the day", x.is(2), 1);
        Desk.feed(x, "day 61;");
        x.end(5);
        x.text();
        Desk.due("a digit that was behind is gone", x.fault(0) * 10 + x.fault(1), 15);
        Desk.feed(x, "days");
        x.end(3);
        x.text();
        Desk.due("a letter that was behind is gone", x.fault(0) * 10 + x.fault(1), 13);
        Desk.feed(x, "day");
        x.end(2);
        x.text();
        Desk.due("a letter that was behind is gone", x.fault(0) * 10 + x.fault(1), 10);
        blanks(x);
        Desk.due("none of twenty", x.end(0), 0);
        Desk.due("an empty tape", x.about(5), 0);

        Edge.promise(4, "NONE, and nothing is done, if it has not so many");
        Desk.due("one of none", x.end(1), -1);
        blanks(x);
        Desk.due("one too many", x.end(21), -1);
        Desk.due("300", x.end(300), -1);
        Desk.due("far too many", x.end(Integer.MAX_VALUE), -1);
        Desk.due("nothing is done", x.about(5), 20);

        Edge.promise(4, "or n is below 0.");
        Desk.due("end(-1)", x.end(-1), -1);
        Desk.due("end(-20)", x.end(-20), -1);
        Desk.due("end(MIN)", x.end(Integer.MIN_VALUE), -1);
        Desk.due("nothing is done", x.about(5), 20);
    }

    private static void reading() {
        Edge.promise(5, "The tape (empty then) is a TEXT: its number.");
        LargePages x = new LargePages();
        Desk.due("an empty tape is a text", x.text(), 0);
        Desk.feed(x, "day 1;");
        Desk.due("the next", x.text(), 1);
        Desk.due("empty then", x.about(5), 0);
        Desk.due("texts", x.about(1), 2);

        Edge.promise(5, "NONE: it has a FAULT");
        Desk.feed(x, "day 1");
        Desk.due("a fault", x.text(), -1);
        Desk.due("empty then", x.about(5), 0);
        Desk.due("no text more", x.about(1), 2);
        Desk.due("it takes no number", x.text(), 2);

        Edge.promise(5, "or (the tape stays) there are 4.");
        Desk.due("the fourth", x.text(), 3);
        Desk.feed(x, "day");
        String stand = Edge.stand(x);
        Desk.due("a fifth", x.text(), -1);
        Edge.same(x, stand);
        Desk.due("the tape stays", x.about(5), 3);
        Desk.due("it was not read", x.fault(0), 0);
        x.back();
        Desk.due("it is read when there are less", x.text(), -1);
        Desk.due("at its end", x.fault(1), 3);
    }

    private static void faultsOfTheLatest() {
        Edge.promise(6, "Of the latest text that was read: 0 its FAULT (0 without), 1 its place (NONE without).");
        LargePages x = new LargePages();
        Desk.text(x, "?");
        Desk.due("a fault", x.fault(0), 1);
        Desk.due("its place", x.fault(1), 0);
        Desk.text(x, "day 1;");
        Desk.due("without", x.fault(0), 0);
        Desk.due("without", x.fault(1), -1);
        Desk.text(x, "day 1; day 0;");
        Desk.due("a fault again", x.fault(0), 2);
        Desk.due("its place", x.fault(1), 11);
        x.object(1);
        x.touch(0, 0);
        x.undo();
        Desk.due("not taken back", x.fault(0), 2);
        x.back();
        Desk.due("not in the image", x.fault(1), 11);

        Edge.promise(6, "NONE for others");
        for (int odd : Edge.beside(0, 1)) {
            Desk.due("fault(" + odd + ")", x.fault(odd), -1);
        }

        Edge.promise(6, "and ahead of any.");
        LargePages y = new LargePages();
        for (int what = -2; what < 4; what++) {
            Desk.due("fault(" + what + ")", y.fault(what), -1);
        }
        Desk.feed(y, "?");
        Desk.due("fed, but not read", y.fault(0), -1);
        Desk.due("fed, but not read", y.fault(1), -1);
    }

    private static void ruling() {
        Edge.promise(7, "THE TEXT (NONE: none): true.");
        LargePages x = Desk.with(8);
        Desk.due("none, at first", x.by(-1), true);
        for (int i = 0; i < 4; i++) {
            Desk.text(x, "wants " + (i + 2) + ";");
        }
        Desk.due("to read is not to rule", x.about(2), -1);
        for (int i = 0; i < 4; i++) {
            Desk.due("by(" + i + ")", x.by(i), true);
            Desk.due("about(2)", x.about(2), i);
            Desk.due("wants", x.wants(0, 0), i + 2);
        }
        Desk.due("no step", x.about(3), 0);

        Edge.promise(7, "False for others.");
        for (int odd : Edge.beside(-1, 3)) {
            Desk.due("by(" + odd + ")", x.by(odd), false);
            Desk.due("it rules yet", x.about(2), 3);
        }
        Desk.due("none any more", x.by(-1), true);
        Desk.due("none any more", x.about(2), -1);
        Desk.due("without: 16", x.wants(0, 0), 16);
        LargePages y = new LargePages();
        Desk.due("without texts", y.by(0), false);
        Desk.due("without texts", y.by(3), false);
    }

    private static void tokens() {
        Edge.terms("TEXTS 0 .. 3: of up to 300 bytes.");
        good("day 1;" + " ".repeat(294));
        fault("day 1;" + " ".repeat(293) + "?", 1, 299);
        fault("day 1" + " ".repeat(295), 1, 300);
        good("wants " + "1+".repeat(146) + "1;");
        wants("1-1+".repeat(71) + "9", 9);
        fault(";".repeat(300), 1, 0);
        LargePages x = Desk.with(1);
        for (int i = 0; i < 4; i++) {
            Desk.due("text", Desk.text(x, "wants " + "1-1+".repeat(71) + (i + 5) + ";"), i);
        }
        for (int i = 0; i < 4; i++) {
            x.by(i);
            Desk.due("each has its own law", x.wants(0, 0), i + 5);
        }

        Edge.terms("TOKENS, blanks (32, 10) aside");
        good(" \nday\n\n1 \n;\n ");
        for (int sign = 0; sign < 256; sign++) {
            boolean blank = sign == 32 || sign == 10;
            fault("day 1;" + (char) sign + "day 1;", blank ? 0 : 1,
                    blank ? -1 : 6);
        }

        Edge.terms("letters a .. z, A .. Z one behind the other (one TOKEN)");
        fault("dayday 1;", 1, 0);
        fault("dayA 1;", 1, 0);
        fault("dayZ 1;", 1, 0);
        fault("daya 1;", 1, 0);
        fault("dayz 1;", 1, 0);
        fault("DAY 1;", 1, 0);
        fault("d ay 1;", 1, 0);
        good("day1;day2;");

        Edge.terms("digits likewise (NUMBERS, 0 .. 9999)");
        good("wants 0;spares 9999;");
        good("wants 0000000000009999;");
        good("wants 00000000000000000000;");
        fault("wants 10000;", 2, 6);
        fault("wants 2147483648;", 2, 6);
        fault("wants 18446744073709551616;", 2, 6);
        fault("wants 9999 9;", 1, 11);
        fault("wants 1a;", 1, 7);

        Edge.terms("<= >= < > = # + - * / ( ) ; (the longest)");
        good("wants if 1<=2 then 1 else 2 end;");
        fault("wants if 1< =2 then 1 else 2 end;", 1, 12);
        fault("wants if 1=<2 then 1 else 2 end;", 1, 11);
        fault("wants if 1<==2 then 1 else 2 end;", 1, 12);
        fault("wants if 1<>2 then 1 else 2 end;", 1, 11);
        fault("wants if 1>=>2 then 1 else 2 end;", 1, 12);
        fault("wants if 1##2 then 1 else 2 end;", 1, 11);
        fault("wants 1++2;", 1, 8);
        good("wants 1--2;");
    }

    private static void clauses() {
        Edge.terms("{CLAUSE}, 24 at most");
        good("");
        good("sweep 0;");
        good("sweep 0;".repeat(24));
        fault("sweep 0;".repeat(25), 6, 192);
        good("wants 1;spares 1;" + "sweep 0;".repeat(22));
        fault("wants 1;spares 1;" + "sweep 0;".repeat(23), 6, 193);

        Edge.terms("wants SUM ; or spares SUM ; (each once)");
        good("wants 1;spares 1;");
        good("spares 1;wants 1;");
        fault("wants 1;wants 1;", 4, 8);
        fault("spares 1;spares 1;", 4, 9);
        fault("wants 1", 1, 7);
        fault("spares 1 sweep 0;", 1, 9);

        Edge.terms("or object NUMBER ; (SIZE) or touch NUMBER of NUMBER ; (PAGE, OBJECT) or write NUMBER of NUMBER by NUMBER ; (VALUE)");
        String[] words = {"object", "1", ";", "touch", "1", "of", "1", ";", "write", "1", "of", "1", "by", "1", ";",
            "sweep", "1", ";", "empty", "1", ";", "drop", "1", ";", "day", "1", ";"};
        for (int left = 0; left < words.length; left++) {
            // Without one word the next one, or the end, can't stand there; without a first word it is the number.
            StringBuilder b = new StringBuilder();
            int place = 0;
            for (int i = 0; i < words.length; i++) {
                if (i == left) {
                    place = b.length();
                } else {
                    b.append(words[i]).append(' ');
                }
            }
            fault(b.toString(), 1, place);
        }
        Edge.terms("or sweep NUMBER ; or empty NUMBER ; or drop NUMBER ; or day NUMBER ;.");
        good(String.join(" ", words));
        good("sweep 0;empty 1;drop 0;day 1;sweep 3;empty 16;drop 3;day 60;");
        for (String word : new String[] {"sweep", "empty", "drop", "day"}) {
            fault(word, 1, word.length());
            fault(word + ";", 1, word.length());
            fault(word + " 1", 1, word.length() + 2);
            fault(word + " 1 1;", 1, word.length() + 3);
            fault(word + " time;", 1, word.length() + 1);
            fault(word + " (1);", 1, word.length() + 1);
        }
    }

    private static void sums() {
        Edge.terms("SUM: PRODUCT {+ or - PRODUCT}. PRODUCT: ONE {* or / ONE}.");
        fault("wants ;", 1, 6);
        fault("wants +1;", 1, 6);
        fault("wants *1;", 1, 6);
        fault("wants 1*;", 1, 8);
        fault("wants 1/+1;", 1, 8);
        wants("20-5-3", 12);
        wants("20-5*3", 5);
        wants("16/4/2", 2);
        wants("16/4*2", 8);
        wants("4*(2+1)", 12);
        wants("16-(2+1)", 13);
        wants("16-(5-2)", 13);
        wants("64/(2*4)", 8);
        wants("48/(8/2)", 12);
        wants("1+2*(3+4*(1+0))-(7-2)", 10);
        wants("5--has 0", 7);

        Edge.terms("ONE: NUMBER, NAME, ( SUM ), - ONE, has ONE");
        fault("wants ();", 1, 7);
        fault("wants (1;", 1, 8);
        fault("wants 1);", 1, 7);
        fault("wants -;", 1, 7);
        fault("wants has;", 1, 9);
        fault("wants not 1;", 1, 6);
        wants("-1+9", 8);
        wants("-2*-3", 6);
        wants("has 0*3", 6);
        wants("has -(0-1)+4", 4);

        Edge.terms("(how many PAGES of the OBJECT of that number are there; 0 for others)");
        wants("has 0+3", 5);
        for (String other : new String[] {"1", "2", "3", "4", "9999", "(0-1)", "-1", "(9999*9999)", "-(9999*9999)"}) {
            wants("has " + other + "+3", 3);
        }

        Edge.terms("soiled ONE (how many are DIRTY)");
        wants("soiled 0+3", 4);
        for (String other : new String[] {"1", "2", "3", "4", "9999", "(0-1)", "-1", "(9999*9999)", "-(9999*9999)"}) {
            wants("soiled " + other + "+3", 3);
        }

        Edge.terms("if EITHER then SUM else SUM end. EITHER: BOTH {or BOTH}. BOTH: ASK {and ASK}.");
        fault("wants if then 1 else 2 end;", 1, 9);
        fault("wants if 1=1 or then 1 else 2 end;", 1, 16);
        fault("wants if 1=1 and then 1 else 2 end;", 1, 17);
        fault("wants if 1=1 then else 2 end;", 1, 18);
        fault("wants if 1=1 then 1 else end;", 1, 25);
        fault("wants if 1=1 then 1 end;", 1, 20);
        fault("wants if 1=1 then 1 else 2;", 1, 26);
        fault("wants if 1=1 then 1 else 2 end end;", 1, 31);
        wants("if 1=1 or 1=1 and 1=2 then 5 else 6 end", 5);
        wants("if 1=2 and 1=2 or 1=1 then 5 else 6 end", 5);

        Edge.terms("ASK: not ASK, or SUM one of < <= > >= = # (unlike) SUM.");
        fault("wants if 1 then 1 else 2 end;", 1, 11);
        fault("wants if 1<2<3 then 1 else 2 end;", 1, 12);
        fault("wants if (1<2) then 1 else 2 end;", 1, 11);
        fault("wants if 1<not 2 then 1 else 2 end;", 1, 11);
        wants("if not 1=2 and 1=2 then 5 else 6 end", 6);
        wants("if not 1=2 then 5 else 6 end", 5);
        wants("if not 1=1 then 5 else 6 end", 6);
        wants("if not not 1=1 then 5 else 6 end", 5);
        wants("if 1=1 and 1=2 then 5 else 6 end", 6);
        wants("if 1=2 or 1=2 then 5 else 6 end", 6);
        wants("if 1=2 or 1=1 and 1=1 then 5 else 6 end", 5);
        wants("2+3*if 1=2 or 1=1 and 1=1 then 4 else 6 end-1", 13);
        String[] signs = {"<", "<=", ">", ">=", "=", "#"};
        int[][] so = {{1, 0, 0}, {1, 1, 0}, {0, 0, 1}, {0, 1, 1}, {0, 1, 0}, {1, 0, 1}};
        for (int i = 0; i < signs.length; i++) {
            for (int left = 6; left <= 8; left++) {
                wants("if " + left + signs[i] + "page then 2 else 3 end", 3 - so[i][left - 6]);
                wants("if not " + left + signs[i] + "page then 2 else 3 end", 2 + so[i][left - 6]);
                wants("if 1=1 and " + left + signs[i] + "page then 2 else 3 end", 3 - so[i][left - 6]);
                wants("if " + left + signs[i] + "page and 1=1 then 2 else 3 end", 3 - so[i][left - 6]);
                wants("if 1=2 or " + left + signs[i] + "page then 2 else 3 end", 3 - so[i][left - 6]);
            }
        }
    }

    private static void names() {
        Edge.terms("NAMES: time, free (FRAMES), number (of the OBJECT), size (SIZE) in both");
        wants("time", 2);
        wants("free/3", 16);
        wants("free-40", 8);
        wants("number+1", 1);
        wants("size-9", 11);
        LargePages x = Desk.with(1, 1, 1, 32);
        Desk.law(x, "spares if time=1 and free=60 and number=3 and size=32 then 1 else 0 end;wants number*10-size+9;");
        Desk.due("the last object's", x.wants(3, 31), 7);
        x.touch(3, 31);
        Desk.due("of the last object", x.spares(0), true);
        LargePages p = Edge.packed();
        Desk.law(p, "wants free+5;");
        Desk.due("no frame is free", p.wants(2, 0), 5);
        LargePages n = Desk.with(1);
        Desk.law(n, "wants time+free-56;");
        Desk.due("all are free at time 0", n.wants(0, 0), 8);

        Edge.terms("page in wants");
        LargePages y = Desk.with(32);
        Desk.law(y, "wants page-20;");
        Desk.due("page 31", y.wants(0, 31), 11);
        Desk.due("page 0", y.wants(0, 0), 1);

        Edge.terms("idle (TIME less its own), holds (how many of its PAGES are there), span (how many it has) in spares");
        LargePages z = Desk.with(32, 4, 1);
        z.touch(0, 0);
        z.touch(0, 1);
        z.touch(1, 3);
        z.touch(2, 0);
        z.touch(2, 0);
        Desk.law(z, "spares if idle=4 and holds=2 and span=16 then 1 else 0 end;");
        Desk.due("of 16", z.spares(0), true);
        Desk.due("not of 4", z.spares(1), false);
        Desk.law(z, "spares if idle=3 and holds=1 and span=4 then 1 else 0 end;");
        Desk.due("of 4", z.spares(1), true);
        Desk.law(z, "spares if idle=2 and holds=1 and span=1 then 1 else 0 end;");
        Desk.due("of 1", z.spares(2), true);
    }

    private static void limits() {
        Edge.terms("/ cuts towards 0, by 0 it is 0");
        wants("7/2", 3);
        wants("8+-7/2", 5);
        wants("8+7/-2", 5);
        wants("-7/-2", 3);
        wants("5/0+3", 3);
        wants("0/0+3", 3);
        wants("3+-5/0", 3);
        wants("3+5/(2-2)*9", 3);

        Edge.terms("what is above 1000000 (below the same less) is that, at each step");
        // 1000 * 1000 is the greatest; then 999999 is no longer cut.
        wants("1000*1000/1000/100", 10);
        wants("1000*1000-999*1001", 1);
        wants("1000*1000+1-9999*100-92", 8);
        wants("9999*9999-9999*100-92", 8);
        wants("9999*101-9999*100-92", 8);
        wants("-1000*1000-1+9999*100+108", 8);
        wants("-9999*9999+9999*100+108", 8);
        wants("0-9999*100-9999+9999*100+108", 8);
        wants("9999*100+9999-9999*100-92", 8);
        wants("9999*9999*9999*9999*9999/9999/10", 10);
        wants("-(0-9999*9999)/1000/100", 10);
        wants("9999*9999", 16);
        wants("-9999*9999", 1);

        Edge.terms("or and and look at both sides always, of if just the SUM that is chosen is asked.");
        wants("if 1=1 or 5/0=1 then 2 else 3 end", 2);
        wants("if 1=2 and 5/0=1 then 2 else 3 end", 3);
        wants("if 1=1 then 2 else 5/0 end", 2);
    }

    private static void faultPlaces() {
        Edge.terms("FAULTS, the first as TOKENS are come to, at the TOKEN's first byte (of the end at the length)");
        fault("sweep 0; object 0; ?", 2, 16);
        fault("sweep 0; ? object 0;", 1, 9);
        fault("wants 1+idle ? wants", 5, 8);
        fault("   object   33;", 2, 12);
        fault("sweep", 1, 5);
        fault("sweep  ", 1, 7);
        fault("sweep\n\n0", 1, 8);
        fault("sweep 0;wants if", 1, 16);
        fault("sweep 0;wants ((((((((", 1, 22);

        Edge.terms("of one the least: 1 it can't stand there, or is none.");
        fault("sweep 0;10000", 1, 8);
        fault("wants 1 10000;", 1, 8);
        fault("wants 1 span;", 1, 8);
        fault("wants 1 wants;", 1, 8);
        fault("sweep 0;".repeat(24) + "idle", 1, 192);
        fault("wants ((((((((1 (", 1, 16);
        fault("wants foo;", 1, 6);
        fault("wants of;", 1, 6);
        fault("?", 1, 0);
        fault("\u0000", 1, 0);
        fault("\u00ff", 1, 0);
        fault("wants 1&2;", 1, 7);
        fault("wants 1.5;", 1, 7);
    }

    private static void faultTwo() {
        Edge.terms("2 a NUMBER that isn't one of those told (above 9999; SIZE 1 .. 32, PAGES 0 .. 31, OBJECTS 0 .. 3, VALUES 0 .. 99, FRAMES 1 .. 16, DAYS 1 .. 60).");
        numbers("wants #;", 0, 9999);
        numbers("spares 1+#;", 0, 9999);
        numbers("object #;", 1, 32);
        numbers("touch # of 0;", 0, 31);
        numbers("touch 0 of #;", 0, 3);
        numbers("write # of 0 by 0;", 0, 31);
        numbers("write 0 of # by 0;", 0, 3);
        numbers("write 0 of 0 by #;", 0, 99);
        numbers("sweep #;", 0, 3);
        numbers("empty #;", 1, 16);
        numbers("drop #;", 0, 3);
        numbers("day #;", 1, 60);
        fault("sweep -1;", 1, 6);
        for (int n = 1; n <= 16; n++) {
            good("empty " + n + ";");
        }
    }

    private static void numbers(String form, int least, int most) {
        int place = form.indexOf('#');
        good(form.replace("#", "" + least));
        good(form.replace("#", "" + most));
        good(form.replace("#", "000" + most));
        fault(form.replace("#", "" + (most + 1)), 2, place);
        fault(form.replace("#", "10000"), 2, place);
        fault(form.replace("#", "99999999999"), 2, place);
        if (least > 0) {
            fault(form.replace("#", "" + (least - 1)), 2, place);
        }
    }

    private static void faultThree() {
        Edge.terms("3 the 9th of ( not has soiled if and - (of one ONE) that are open around one another (at it).");
        String[] openers = {"(", "-", "has ", "soiled "};
        for (String opener : openers) {
            String eight = opener.repeat(8);
            String close = opener.equals("(") ? ")".repeat(8) : "";
            good("wants " + eight + "1" + close + ";");
            for (String ninth : openers) {
                fault("wants " + eight + ninth + "1;", 3, 6 + eight.length());
            }
            fault("wants " + eight + "if 1=1 then 1 else 2 end;", 3, 6 + eight.length());
        }
        String ifs = "if ".repeat(8);
        good("wants " + ifs + "1=1" + " then 1 else 2 end=1".repeat(7) + " then 1 else 2 end;");
        fault("wants " + ifs + "if 1=1 then 1 else 2 end", 3, 6 + ifs.length());
        fault("wants " + ifs + "not 1=1", 3, 6 + ifs.length());
        fault("wants " + ifs + "(1", 3, 6 + ifs.length());
        String nots = "if " + "not ".repeat(7);
        good("wants " + nots + "1=1 then 1 else 2 end;");
        fault("wants " + nots + "not 1=1 then 1 else 2 end;", 3, 6 + nots.length());
        fault("wants " + nots + "-1=1 then 1 else 2 end;", 3, 6 + nots.length());
        fault("wants " + nots + "1=-1 then 1 else 2 end;", 3, 8 + nots.length());
        good("wants " + nots + "1=1 then -------1 else -------1 end;");
        fault("wants " + nots + "1=1 then --------1 else 1 end;", 3, 6 + nots.length() + 16);
        fault("wants " + nots + "1=1 then 1 else --------1 end;", 3, 6 + nots.length() + 23);
        good("wants " + "(1)+".repeat(20) + "1;");
        good("wants ((((((((1-1-1))))))));");
        good("wants ((((((((1))))))))+((((((((1))))))));");
        good("wants --------1---------1;");
        fault("wants --------1----------1;", 3, 6 + 8 + 1 + 1 + 8);
        fault("wants ((((((((+", 1, 14);
    }

    private static void faultsFourToSix() {
        Edge.terms("4 wants, spares for the second time (at it).");
        fault("wants 1;sweep 0;wants 1;", 4, 16);
        fault("spares 1;wants 1;spares 1;", 4, 17);
        fault("wants 1;spares 1;wants", 4, 17);
        good("wants 1;spares 2;");

        Edge.terms("5 a NAME that isn't of that CLAUSE (at it).");
        for (String name : new String[] {"idle", "holds", "span"}) {
            fault("wants " + name + ";", 5, 6);
            good("spares " + name + ";");
        }
        good("wants page;");
        fault("spares page;", 5, 7);
        fault("spares 1;wants 2*has idle;", 5, 21);
        fault("wants page;spares page;", 5, 18);
        for (String name : new String[] {"time", "free", "number", "size"}) {
            good("wants " + name + ";spares " + name + ";");
        }

        Edge.terms("6 the 25th CLAUSE (at its first TOKEN).");
        String full = "sweep 0;".repeat(24);
        fault(full + " \n sweep ?", 6, 195);
        fault(full + "wants", 6, 192);
        fault(full + "object 0;", 6, 192);
        fault(full + ";", 1, 192);
        fault("wants 1;" + "sweep 0;".repeat(23) + "wants 1;", 4, 192);
        fault("spares 1;" + "sweep 0;".repeat(23) + "wants 1;", 6, 193);
        good(full + " \n");
    }

    private static void laws() {
        Edge.terms("THE TEXT (told; at first none) rules.");
        LargePages x = Desk.with(32);
        Desk.due("at first none", x.about(2), -1);
        Desk.text(x, "wants 1;spares 0;");
        x.touch(0, 0);
        Desk.due("a text alone rules not", x.reserved(0, 2), 16);
        Desk.due("a text alone rules not", x.spares(0), true);
        x.by(0);
        Desk.due("it rules", x.wants(0, 16), 1);
        Desk.text(x, "wants 3;spares 5;");
        Desk.text(x, "spares 0;wants 6;");
        x.by(1);
        Desk.due("wants ahead of spares", x.wants(0, 16), 3);
        Desk.due("spares behind wants", x.spares(0), true);
        x.by(2);
        Desk.due("wants behind spares", x.wants(0, 16), 6);
        Desk.due("spares ahead of wants", x.spares(0), false);
        x.by(0);
        Desk.due("it rules", x.spares(0), false);
        x.undo();
        Desk.due("what is told is not taken back", x.about(2), 0);

        Edge.terms("wants: 1 at least, 16 at most; without: 16.");
        wants("1", 1);
        wants("0", 1);
        wants("-1", 1);
        wants("-9999*9999", 1);
        wants("16", 16);
        wants("15", 15);
        wants("17", 16);
        wants("9999*9999", 16);
        LargePages y = Desk.with(32);
        Desk.law(y, "spares 0;");
        Desk.due("a text without wants", y.wants(0, 0), 16);
        y.by(-1);
        Desk.due("no text", y.wants(0, 0), 16);

        Edge.terms("spares: above 0 it lets go; without: it does.");
        y.touch(0, 0);
        Desk.due("no text", y.spares(0), true);
        String[] sums = {"1", "0", "-1", "9999*9999", "0-9999*9999"};
        boolean[] lets = {true, false, false, true, false};
        for (int i = 0; i < sums.length; i++) {
            LargePages v = Desk.with(32);
            v.touch(0, 0);
            Desk.law(v, "spares " + sums[i] + ";");
            Desk.due("spares " + sums[i], v.spares(0), lets[i]);
            Desk.due("victim by spares " + sums[i], v.victim(1), lets[i] ? 0 : -1);
        }
        LargePages z = Desk.with(32);
        z.touch(0, 0);
        Desk.law(z, "wants 3;");
        Desk.due("a text without spares", z.spares(0), true);
        Desk.law(z, "");
        Desk.due("an empty text", z.spares(0), true);
        Desk.due("an empty text", z.wants(0, 0), 16);
    }

    private static void wanting() {
        Edge.promise(40, "wants now.");
        LargePages x = Desk.with(32, 1);
        Desk.law(x, "wants has 0+page/4;");
        Desk.due("page 0", x.wants(0, 0), 1);
        Desk.due("page 31", x.wants(0, 31), 7);
        x.touch(0, 31);
        Desk.due("now, of a page that is there", x.wants(0, 31), 8);
        Desk.due("of the least object", x.wants(1, 0), 1);

        Edge.promise(40, "NONE for others.");
        for (int odd : Edge.beside(0, 1)) {
            Desk.due("wants(" + odd + ", 0)", x.wants(odd, 0), -1);
        }
        for (int odd : Edge.beside(0, 31)) {
            Desk.due("wants(0, " + odd + ")", x.wants(0, odd), -1);
        }
        Desk.due("wants(1, 1)", x.wants(1, 1), -1);
        Desk.due("without objects", new LargePages().wants(0, 0), -1);
    }

    private static void sparing() {
        Edge.promise(41, "Whether spares lets the i-th RESERVATION go.");
        LargePages x = Desk.with(32, 1, 1);
        x.touch(1, 0);
        x.touch(0, 0);
        x.touch(2, 0);
        Desk.law(x, "spares if number=2 then 1 else 0-1 end;");
        Desk.due("frame 0", x.spares(0), false);
        Desk.due("frame 1", x.spares(1), true);
        Desk.due("frame 16", x.spares(2), false);
        Desk.due("a law alone: it has no absent page", x.victim(1), -1);

        Edge.promise(41, "False for others.");
        x.by(-1);
        for (int odd : Edge.beside(0, 2)) {
            Desk.due("spares(" + odd + ")", x.spares(odd), false);
        }
        Desk.due("the last", x.spares(2), true);
        Desk.due("without reservations", new LargePages().spares(0), false);
    }

    private static void saying() {
        Edge.promise(42, "SAID: how many there are (page NONE: none any more).");
        LargePages x = Desk.with(20, 32);
        for (int i = 1; i <= 7; i++) {
            Desk.due("said", x.said(i, i), i);
        }
        Desk.due("none any more", x.said(-1, 5), 0);
        Desk.due("whatever is wanted", x.said(-1, -77), 0);
        Desk.due("about(4)", x.about(4), 0);
        Desk.due("no step", x.about(3), 0);

        Edge.promise(42, "-2 for others (PAGES of OBJECT 0; 1 .. 16)");
        for (int odd : Edge.beside(1, 16)) {
            Desk.due("said(0, " + odd + ")", x.said(0, odd), -2);
        }
        for (int odd : Edge.beside(-1, 19)) {
            Desk.due("said(" + odd + ", 1)", x.said(odd, 1), -2);
        }
        Desk.due("page 31 is of object 1", x.said(31, 1), -2);
        Desk.due("none is said", x.about(4), 0);
        Desk.due("the least", x.said(0, 1), 1);
        Desk.due("the greatest", x.said(19, 16), 2);
        LargePages y = new LargePages();
        Desk.due("without object 0", y.said(0, 1), -2);
        Desk.due("without object 0: none any more", y.said(-1, 1), 0);

        Edge.promise(42, "or if there are 8.");
        Edge.terms("(told: SAID, 8 at most: a PAGE of OBJECT 0, wants 1 .. 16)");
        for (int i = 3; i <= 8; i++) {
            Desk.due("said", x.said(5, 5), i);
        }
        Desk.due("a ninth", x.said(5, 5), -2);
        Desk.due("a ninth", x.said(6, 6), -2);
        Desk.due("eight", x.about(4), 8);
        Desk.due("none any more", x.said(-1, 0), 0);
        Desk.due("room again", x.said(5, 5), 1);
    }

    private static void whose() {
        Edge.promise(43, "WHOSE LAW (bits).");
        Edge.terms("TEXTS (bits) by whose wants all are so (as now).");
        LargePages x = Desk.with(20);
        Desk.due("without texts", x.whose(), 0);
        x.said(0, 16);
        Desk.due("without texts", x.whose(), 0);
        x.said(-1, 0);
        Desk.text(x, "");
        Desk.text(x, "wants page;");
        Desk.text(x, "wants 99;");
        Desk.text(x, "wants has 0;");
        Desk.due("nothing is said", x.whose(), 15);
        x.said(19, 16);
        Desk.due("1 at least, 16 at most, without: 16", x.whose(), 7);
        x.said(0, 1);
        Desk.due("all must be so", x.whose(), 2);
        x.said(-1, 0);
        x.said(0, 1);
        Desk.due("page 0", x.whose(), 10);
        x.touch(0, 0);
        x.touch(0, 1);
        Desk.due("as now", x.whose(), 2);
        x.said(-1, 0);
        for (int i = 0; i < 7; i++) {
            x.said(3, 3);
        }
        x.said(3, 4);
        Desk.due("the eighth too", x.whose(), 0);
        LargePages y = Desk.with(9, 5);
        Desk.text(y, "wants number*7+size;");
        y.said(2, 9);
        Desk.due("of object 0", y.whose(), 1);
    }
}
