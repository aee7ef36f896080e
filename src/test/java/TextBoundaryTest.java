/** The boundary cases of promises 25 to 29: THE TAPE, and TEXTS. */
public final class TextBoundaryTest extends Boundary {
    private static final int BLANKS = 0x20202020;

    // ---- 25 feed

    static void p25NoMoreThan96() {
        furnish();
        x.call("trim", 0);
        for (int i = 1; i <= 8; i++) {
            x.due(12 * i, "feed", BLANKS, BLANKS, BLANKS);
        }
        x.refused(FULL, "feed", BLANKS, BLANKS, BLANKS);
        x.due(96, "count", 8);
    }

    static void p25ItWouldHaveMoreThan96() {
        for (int i = 1; i <= 8; i++) {
            x.call("feed", BLANKS, BLANKS, BLANKS);
        }
        x.call("trim", 85);
        x.refused(FULL, "feed", 0, 0, 0);
        x.call("trim", 84);
        x.due(96, "feed", 0, 0, 0);
    }

    static void p25TheHighestFirst() {
        x.call("feed", 'f' << 24 | 'e' << 16 | 'e' << 8 | ' ', '1' << 24 | '2' << 16 | '3' << 8 | '4',
            '-' << 24 | '7' << 16 | '8' << 8 | '9');
        x.due(0, "text");
        x.due(1234 - 789, "fee");
    }

    static void p25AnyNumber() {
        for (int v : new int[] {MIN, MAX, -1, 0, BAD}) {
            x.due(12, "feed", v, v, v);
            x.due(-100, "text");
        }
    }

    static void p25BehindWhatWasKept() {
        x.tape("fee 1");
        x.due(17, "feed", '2' << 24 | '+' << 16 | '5' << 8 | ' ', BLANKS, BLANKS);
        x.due(0, "text");
        x.due(17, "fee");
    }

    // ---- 26 trim

    static void p26NIs0ToWhatTheTapeHas() {
        furnish();
        refusedWith(BAD, outside(0, 5), "trim", 0, 0);
        x.asked(5, "trim", 5);
        x.due(4, "trim", 4);
        x.due(4, "count", 8);
        x.refused(BAD, "trim", 5);
        x.due(0, "trim", 0);
        x.due(0, "count", 8);
        x.refused(BAD, "trim", 1);
    }

    static void p26AnEmptyTape() {
        x.due(0, "trim", 0);
        refusedWith(BAD, outside(0, 0), "trim", 0, 0);
    }

    static void p26AFullTape() {
        for (int i = 1; i <= 8; i++) {
            x.call("feed", BLANKS, BLANKS, BLANKS);
        }
        x.due(BAD, "trim", 97);
        x.due(96, "trim", 96);
        x.due(95, "trim", 95);
        x.due(BAD, "trim", 96);
    }

    static void p26TheFirstOnesAreKept() {
        x.tape("fee 12345");
        x.due(8, "trim", 8);
        x.due(0, "text");
        x.due(1234, "fee");
    }

    // ---- 27 text: what fits and what does not

    /** A TEXT that is none: its FAULT, and that nothing changes but THE TAPE, which is used up. */
    private static void fault(int place, String s) {
        Run other = x.again();
        other.tape(s);
        other.changesOnly("TAPE ", -100 - place, "text");
        other.due(-100 - place, "text");
        other.due(0, "count", 8);
    }

    private static void fits(String s) {
        Run other = x.again();
        int number = other.call("count", 6);
        other.tape(s);
        other.due(number, "text");
        other.due(0, "count", 8);
        other.due(number + 1, "count", 6);
    }

    /** What is to be worked out, as fee; HELD is 5 and LOST 3. */
    private static void gives(int want, String e) {
        Run other = x.again();
        int number = other.call("count", 6);
        other.tape("fee " + e);
        other.due(number, "text");
        Checks.due("fee " + e, want, other.call("fee"));
    }

    private static void fiveHeldThreeLost() {
        x.call("nights", 3);
        x.call("rule", FORCE, 0);
        x.call("nights", 5);
    }

    static void p27FourteenAndNoMore() {
        x.call("guard", STRAW, 3, 50);
        for (int i = 0; i < 13; i++) {
            Checks.due("p27 a TEXT's number", i, x.text(i % 2 == 0 ? "look " + i : "fine " + i));
        }
        fits("fee 7");
        x.text("look 13");
        x.tape("fee 7");
        x.changesOnly("TAPE ", FULL, "text");
        x.due(FULL, "text");
        x.due(0, "count", 8);
        x.due(14, "count", 6);
        x.due(13, "why", 0);
        x.due(NONE, "why", 1);
        x.due(0, "fee");
        x.due(13, "told", 0, LOOKS);
        x.due(BAD, "textTold", 14, 0);
    }

    static void p27AFaultAheadOfFull() {
        for (int i = 0; i < 14; i++) {
            x.text("look " + i);
        }
        fault(4, "look");
        fault(0, "");
        x.tape("look w");
        x.due(FULL, "text");
    }

    static void p27TheTapeIsUsedUpWhateverItAnswers() {
        x.tape("look w");
        x.due(0, "text");
        x.due(-100, "text");
        x.due(0, "count", 8);
        x.tape("look w+");
        x.due(-107, "text");
        x.due(-100, "text");
    }

    static void p27OneByteAtLeastAndAll96() {
        fits("look w");
        fits("look(w)");
        fits("look " + many("1+", 45) + "1");
        fits("fee" + many(" ", 92) + "h");
        fits(many(" ", 91) + "fee h");
        fits("fee h" + many(" ", 91));
        fault(96, "look " + many("1+", 45) + "(");
        fault(96, "fee " + many("h+", 46));
        fault(96, many(" ", 96));
        fault(95, "fee h" + many(" ", 90) + "h");
    }

    static void p27AnEmptyTapeEndsTooSoon() {
        furnish();
        fault(0, "");
        fault(1, " ");
        fault(12, many(" ", 12));
    }

    static void p27KeysAreWholeWords() {
        furnish();
        String[] right = {"look 1", "fee 1", "fine 1", " look 1", "   fee 1"};
        for (String s : right) {
            fits(s);
        }
        String[] wrong = {"loo 1", "looks 1", "lookw", "ook 1", "fe 1", "feee 1", "fees 1", "fin 1", "fines 1", "l ook 1", "Look 1", "LOOK 1",
            "why 1", "w", "7", "(look 1)", "!look 1", ")", "+1"};
        for (String s : wrong) {
            fault(0, s);
        }
        for (String key : new String[] {"look", "fee", "fine"}) {
            for (int i = 0; i < key.length(); i++) {
                fault(0, key.substring(0, i) + 'x' + key.substring(i + 1) + " 1");
                fault(0, key.substring(0, i) + key.substring(i + 1) + " 1");
            }
            fault(0, key + "a 1");
            fault(0, key + "z 1");
            fault(0, "a" + key + " 1");
            fault(0, "z" + key + " 1");
        }
        fault(3, "   looks 1");
        fault(5, "look look 1");
        fault(5, "look fee");
    }

    static void p27TheEndBehindAKey() {
        furnish();
        fault(4, "look");
        fault(3, "fee");
        fault(4, "fine");
        fault(7, "look   ");
        fault(7, "  look ");
    }

    static void p27TheEndBehindASign() {
        furnish();
        for (String sign : new String[] {"|", "&", "<", "=", ">", "+", "-", "*", "/"}) {
            fault(6, "fee 1" + sign);
            fault(9, "fee 1 " + sign + "  ");
            fits("fee 1" + sign + "1");
            fits("fee 1  " + sign + "  1 ");
        }
        fault(5, "fee !");
        fault(5, "fee (");
    }

    static void p27ASignTwice() {
        furnish();
        for (String sign : new String[] {"|", "&", "<", "=", ">", "+", "-", "*", "/"}) {
            fault(6, "fee 1" + sign + sign + "1");
            fault(4, "fee " + sign + "1");
            fault(6, "fee 1" + sign + ")");
        }
    }

    static void p27OneComparisonATest() {
        furnish();
        for (String first : new String[] {"<", "=", ">"}) {
            for (String second : new String[] {"<", "=", ">"}) {
                fault(7, "fee 1" + first + "2" + second + "3");
                fault(11, "fee 1" + first + "2+3*4" + second + "3");
                fits("fee 1" + first + "2&2" + second + "3");
                fits("fee 1" + first + "2|2" + second + "3");
                fits("fee (1" + first + "2)" + second + "3");
                fits("fee 1" + first + "(2" + second + "3)");
                fault(11, "fee (1" + first + "2)" + second + "3" + first + "4");
                fault(12, "fee 1|(1" + first + "2+1" + second + "3)");
                fits("fee (1" + first + "2)+(2" + second + "3)");
                fault(11, "fee 1" + first + "(2&3)" + second + "3");
            }
        }
    }

    static void p27ANumberHas1To4Digits() {
        furnish();
        fits("fee 0");
        fits("fee 9999");
        fits("fee 0000");
        fault(4, "fee 10000");
        fault(4, "fee 00000");
        fault(4, "fee 99999");
        fault(6, "fee 1+123456789012");
        fault(7, "fee 12 34");
        gives(9999, "9999");
        gives(7, "0007");
        gives(0, "0");
    }

    static void p27NamesAreOneLetter() {
        furnish();
        fits("look w+d+p");
        fits("fee h+l");
        fits("fine w+d");
        fault(5, "look ww");
        fault(7, "look w+wd");
        fault(4, "fee hl");
        fault(5, "fine wd");
    }

    static void p27NamesOfTheirKeyAlone() {
        furnish();
        for (char c = 'a'; c <= 'z'; c++) {
            String[] of = {"look wdp", "fee hl", "fine wd"};
            for (String keyAndNames : of) {
                int blank = keyAndNames.indexOf(' ');
                String s = keyAndNames.substring(0, blank + 1) + c;
                if (keyAndNames.indexOf(c, blank) >= 0) {
                    fits(s);
                } else {
                    fault(blank + 1, s);
                }
            }
        }
    }

    static void p27AWordRightBehindAnotherOne() {
        furnish();
        fault(3, "fee1");
        fault(4, "look1");
        fault(3, "fee12345");
        fits("fee 1");
        fault(5, "fee h1");
        fault(5, "fee 1h");
        fault(6, "fee h h");
        fault(6, "fee 1 1");
        fault(6, "fee h 1");
        fault(8, "fee 1234h");
        fits("fee(h)");
        fits("fee!h");
        fault(7, "fee (h)1");
        fault(7, "fee (h)h");
        fault(7, "fee (h)(h)");
        fault(5, "fee h(h)");
        fault(5, "fee 1(h)");
    }

    static void p27OtherBytes() {
        furnish();
        int[] bytes = {0, 1, 9, 10, 13, 31, '"', '#', '$', '%', '\'', ',', '.', ':', ';', '?', '@', 'A', 'W', 'Z', '[', '^', '_', '`', '{', '}',
            '~', 127, 128, 160, 200, 233, 255};
        for (int b : bytes) {
            fault(0, (char) b + "fee 1");
            fault(3, "fee" + (char) b + "1");
            fault(4, "fee " + (char) b);
            fault(5, "fee 1" + (char) b);
            fault(6, "fee 1 " + (char) b + " +2");
        }
    }

    static void p27WordsEndWithTheirLettersOrDigits() {
        furnish();
        fault(3, "fee0");
        fault(3, "fee9");
        fault(5, "fee h0");
        fault(5, "fee h9");
        fault(5, "fee 1a");
        fault(5, "fee 1z");
        fault(4, "fee ha");
        fault(4, "fee hz");
        fault(4, "fee ah");
        fault(4, "fee zh");
    }

    static void p27AFaultLeavesNothingBehind() {
        x.call("keep");
        String[] wrong = {"fee 1<2+", "fee " + many("(", 8), "fee " + many("!", 8), "fee " + many("!(", 8) + "1<2&", "fee !", "fee 3*(2+",
            "fee 1-", "look w+"};
        Object[][] right = {{"fee 7", 7, 1}, {"fee " + many("!(", 8) + "7" + many(")", 8) + "<2", 1, 2}, {"fee 9-2*(3-1)", 5, 4}};
        for (String s : wrong) {
            for (Object[] row : right) {
                x.tape(s);
                x.due(-100 - s.length(), "text");
                x.tape((String) row[0]);
                x.due(0, "text");
                x.due((Integer) row[1], "fee");
                x.due((Integer) row[2], "textTold", 0, 1);
                x.call("back");
            }
        }
    }

    static void p27ATextLeavesNothingBehind() {
        for (int i = 0; i < 4; i++) {
            x.tape("fee 1<2");
            x.due(2 * i, "text");
            x.due(1, "fee");
            x.tape("fee (7)-4");
            x.due(2 * i + 1, "text");
            x.due(3, "fee");
        }
    }

    static void p27TheNinthBracket() {
        furnish();
        fits("fee " + many("(", 8) + "h" + many(")", 8));
        fault(12, "fee " + many("(", 9) + "h" + many(")", 9));
        fault(12, "fee " + many("(", 9));
        fault(20, "fee " + many("( ", 9));
        fits("fee " + many("(", 8) + "h" + many(")", 8) + "+" + many("(", 8) + "h" + many(")", 8));
        fault(18, "fee " + many("(", 8) + "h)+(h+(");
        fits("fee " + many("(", 8) + "h)+(h)" + many(")", 7));
        fits("fee " + many("(h)+", 20) + "h");
    }

    static void p27TheNinthBang() {
        furnish();
        fits("fee " + many("!", 8) + "h");
        fault(12, "fee " + many("!", 9) + "h");
        fault(12, "fee " + many("!", 9));
        fault(20, "fee " + many("! ", 9) + "h");
        fits("fee " + many("!", 8) + "h+" + many("!", 8) + "h");
        fits("fee " + many("!h+", 20) + "h");
        fits("fee !(" + many("!", 7) + "h)");
        fault(13, "fee !(" + many("!", 8) + "h)");
        fits("fee !(h)*" + many("!", 8) + "h");
        fault(15, "fee !(h*" + many("!", 8) + "h)");
    }

    static void p27EachByItself() {
        furnish();
        fits("fee " + many("!(", 8) + "h" + many(")", 8));
        fits("fee " + many("(!", 8) + "h" + many(")", 8));
        fits("fee " + many("(", 8) + many("!", 8) + "h" + many(")", 8));
        fits("fee " + many("!", 8) + many("(", 8) + "h" + many(")", 8));
        fault(20, "fee " + many("!(", 8) + "!h" + many(")", 8));
        fault(20, "fee " + many("!(", 8) + "(h" + many(")", 9));
    }

    static void p27AClosingBracketTooManyOrTooFew() {
        furnish();
        fault(5, "fee h)");
        fault(4, "fee )");
        fault(7, "fee (h))");
        fault(6, "fee (h");
        fault(8, "fee ((h)");
        fault(8, "fee (h  ");
        fault(5, "fee ()");
        fault(6, "fee !()");
        fault(5, "fee h!");
        fault(6, "fee h !h");
    }

    static void p27BlanksAreNotNeeded() {
        fiveHeldThreeLost();
        gives(1, "h>l&!(h<l)|h*0+(l-3)/2");
        gives(1, " h  >  l  &  !  (  h  <  l  )  |  h  *  0  +  (  l  -  3  )  /  2  ");
        gives(2, "h-l");
        gives(2, " h- l");
    }

    static void p27TheLoosestFirst() {
        fiveHeldThreeLost();
        gives(1, "1|0&0");
        gives(0, "(1|0)&0");
        gives(1, "0&0|1");
        gives(1, "2=2&3");
        gives(0, "2=(2&3)");
        gives(1, "1+1=2");
        gives(2, "1+(1=2)+1");
        gives(7, "1+2*3");
        gives(9, "(1+2)*3");
        gives(5, "10-10/2");
        gives(0, "!1+0");
        gives(3, "!0*3");
        gives(0, "!(0*3+1)");
        gives(4, "10-3-3");
        gives(10, "10-(3-3)");
        gives(2, "12/3/2");
        gives(12, "12/(3/3)");
        gives(8, "12/3*2");
        gives(3, "12*2/8");
        gives(11, "10-3+4");
    }

    static void p27TestsGive1Or0() {
        int[][] rows = {{1, 2, 1, 0, 0}, {2, 2, 0, 1, 0}, {3, 2, 0, 0, 1}};
        for (int[] row : rows) {
            gives(row[2], row[0] + "<" + row[1]);
            gives(row[3], row[0] + "=" + row[1]);
            gives(row[4], row[0] + ">" + row[1]);
        }
        gives(1, "0-1<0");
        gives(0, "0-1>0");
    }

    static void p27WhatIsNot0IsTrue() {
        gives(1, "2&4");
        gives(1, "2|4");
        gives(1, "0-1|0");
        gives(1, "(0-1)&(0-2)");
        gives(0, "2&0");
        gives(0, "0&2");
        gives(0, "0|0");
        gives(1, "0|2");
        gives(0, "!2");
        gives(0, "!(0-1)");
        gives(1, "!0");
        gives(1, "!!9999");
        gives(0, "!!!9999");
        gives(1, "!!!!!!!!9999");
    }

    static void p27OfAKeyTheLastCounts() {
        x.call("guard", STRAW, 3, 40);
        x.text("look 11");
        x.text("look 22");
        x.text("fee 1");
        x.due(22, "told", 0, LOOKS);
        fault(4, "look");
        x.due(1, "why", 0);
        x.text("look w+p");
        x.due(43, "told", 0, LOOKS);
        x.due(3, "why", 0);
        x.due(1, "fee");
    }

    static void p27NamesAreAsTheyAreThen() {
        x.call("guard", STRAW, 3, 40);
        x.text("look w+d+p");
        x.text("fine w*100+d");
        x.call("set", 0, WEAR, 0);
        x.call("set", 0, DOUBT, 99);
        x.call("moves", 0, 0);
        x.due(99, "told", 0, LOOKS);
        x.due(99, "fine", 0);
        x.call("set", 0, DOUBT, 0);
        x.due(0, "told", 0, LOOKS);
        x.call("moves", 0, 19);
        x.due(19, "told", 0, LOOKS);
        x.call("set", 0, WEAR, 99);
        x.due(9900, "fine", 0);
    }

    static void p27TheLongestWorkings() {
        gives(1, many("(", 8) + many("1-", 30) + "0-" + "2" + many(")", 8) + "<1");
        gives(46, many("1+", 45) + "1");
        gives(0, "1" + many("*0", 45));
        gives(1, "1" + many("=1&1", 22));
    }

    // ---- 28 textTold

    static void p28TextsAreThoseThatThereAre() {
        x.due(BAD, "textTold", 0, 0);
        furnish();
        x.asked(0, "textTold", 0, 0);
        x.asked(2, "textTold", 2, 0);
        refusedWith(BAD, outside(0, 2), "textTold", 0, 0, 0);
        refusedWith(BAD, new int[] {13, 14}, "textTold", 0, 0, 1);
    }

    static void p28WhatIs0Or1() {
        furnish();
        x.asked(1, "textTold", 1, 0);
        x.asked(4, "textTold", 1, 1);
        refusedWith(BAD, outside(0, 1), "textTold", 1, 1, 0);
    }

    static void p28AllFourteen() {
        for (int i = 0; i < 14; i++) {
            x.text((i % 3 == 0 ? "look " : i % 3 == 1 ? "fee " : "fine ") + many("1+", i) + "1");
        }
        for (int i = 0; i < 14; i++) {
            x.due(i % 3, "textTold", i, 0);
            x.due(i + 1, "textTold", i, 1);
        }
        x.due(BAD, "textTold", 14, 0);
    }

    static void p28FewestAndMost() {
        x.text("fee !!(((!h)))");
        x.due(1, "textTold", 0, 1);
        x.text("fee " + many("h+", 45) + "1");
        x.due(46, "textTold", 1, 1);
        x.text("fee 1+1+h*h<l&12");
        x.due(6, "textTold", 2, 1);
    }

    static void p28TextsThatAnImageHasNot() {
        x.text("fee 1+1");
        x.call("keep");
        x.text("look 1");
        x.due(0, "textTold", 1, 0);
        x.call("back");
        x.due(BAD, "textTold", 1, 0);
        x.due(2, "textTold", 0, 1);
        x.text("fine 1+2+3");
        x.due(2, "textTold", 1, 0);
        x.due(3, "textTold", 1, 1);
    }

    // ---- 29 why

    static void p29KeysAre0To2() {
        furnish();
        x.asked(0, "why", 0);
        x.asked(1, "why", 1);
        x.asked(2, "why", 2);
        refusedWith(BAD, outside(0, 2), "why", 0, 0);
    }

    static void p29ThereIsNone() {
        for (int key = 0; key < 3; key++) {
            x.due(NONE, "why", key);
        }
        x.text("fee 1");
        x.due(NONE, "why", 0);
        x.due(0, "why", 1);
        x.due(NONE, "why", 2);
    }

    static void p29NeitherAFaultNorAFullOneCounts() {
        for (int i = 0; i < 13; i++) {
            x.text("look " + i);
        }
        x.text("fine");
        x.due(NONE, "why", 2);
        x.text("fee 1");
        x.text("look 1");
        x.text("fine 1");
        x.due(12, "why", 0);
        x.due(13, "why", 1);
        x.due(NONE, "why", 2);
    }

    static void p29AsTheImageHasIt() {
        x.call("keep");
        x.text("look 1");
        x.call("back");
        x.due(NONE, "why", 0);
        x.text("fee 1");
        x.due(0, "why", 1);
        x.due(NONE, "why", 0);
    }

    public static void main(String[] args) throws Exception {
        runAll(TextBoundaryTest.class, 25, 29);
    }
}
