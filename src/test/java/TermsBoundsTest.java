/** "Terms": each sentence of it that names a bound, with what lies on it, within it and beyond it. */
public final class TermsBoundsTest extends Checks {
    private static final String STRETCH = "stretch 0 1 0;";
    private static final String[] SIGNS = {";", "(", ")", "+", "-", "*", "/", "<", "="};
    private static final String[] VALUES = {"strain", "seam", "stitch", "beside", "women", "day"};
    private static final String[] LINE_WORDS = {"stretch", "woman", "knots", "week", "frays", "pulls"};
    /** What an EXPR may have ahead of a PART. */
    private static final String[] AHEAD_OF_A_PART = {"", "not ", "1 and ", "1 or ", "1<", "1=", "1+", "1-", "1*", "1/", "(",
        "not (", "1 and not ", "(1)+", "strain*"};

    public static void main(String[] args) {
        stretches();
        women();
        words();
        week();
        lengthOfTheText();
        tokens();
        everyByte();
        firstFault();
        fault1();
        fault1OfRules();
        tooSoon();
        fault2();
        fault2OfRules();
        fault3();
        fault4and5();
        worthOfRules();
        values();
        end("the bounds of the terms hold");
    }

    private static void isStretch(HorizonSeam x, int i, int strain, int seam, int stitch) {
        due("strain of " + i, strain, () -> x.stretch(i, 0));
        due("seam of " + i, seam, () -> x.stretch(i, 1));
        due("stitch of " + i, stitch, () -> x.stretch(i, 2));
    }

    private static void isWoman(HorizonSeam x, int w, int skill, int stretch, int thread) {
        due("skill of " + w, skill, () -> x.woman(w, 0));
        due("stretch of " + w, stretch, () -> x.woman(w, 1));
        due("thread of " + w, thread, () -> x.woman(w, 2));
    }

    private static void stretches() {
        says("STRETCHES: at most 12 are told");
        HorizonSeam x = of(times("stretch 3 4 1;", 11) + "stretch 5 6 2;");
        due("stretches", 12, () -> x.count(0));
        isStretch(x, 10, 3, 4, 1);
        isStretch(x, 11, 5, 6, 2);
        due("the 13th", NO_SUCH, () -> x.stretch(12, 0));
        fault(times(STRETCH, 12) + "stretch", 2, 168);
        fault(times(STRETCH, 13), 2, 168);
        due("a 13th: a fault", 2, () -> ring(x, times(STRETCH, 13)));
        due("all stays", 5, () -> x.stretch(11, 0));

        says("are fewer than 3 told, the rest of 3 has STRAIN 0, SEAM 50, and is plain");
        for (int told = 0; told <= 4; told++) {
            HorizonSeam y = of(times("stretch 7 9 2;", 4));
            String text = times("stretch 8 9 1;", told);
            due("ring of " + told, 0, () -> ring(y, text));
            int many = Math.max(3, told);
            due("stretches, " + told + " told", many, () -> y.count(0));
            for (int i = 0; i < many; i++) {
                isStretch(y, i, i < told ? 8 : 0, i < told ? 9 : 50, i < told ? 1 : 0);
            }
            due("no more, " + told + " told", NO_SUCH, () -> y.stretch(many, 0));
        }

        says("the last one and 0 are beside each other");
        HorizonSeam three = of("stretch 1 9 0;stretch 2 9 0;stretch 4 9 0;pulls beside;");
        due("beside 0 of 3", 6, () -> three.stretch(0, 5));
        due("beside 1 of 3", 5, () -> three.stretch(1, 5));
        due("beside 2 of 3", 3, () -> three.stretch(2, 5));
        StringBuilder text = new StringBuilder("pulls beside-10;");
        for (int i = 0; i < 12; i++) {
            text.append("stretch ").append(i == 11 ? 9 : i + 1).append(" 9 0;");
        }
        HorizonSeam twelve = of(text.toString());
        due("beside 0 of 12", 1, () -> twelve.stretch(0, 5));
        due("beside 5 of 12", 2, () -> twelve.stretch(5, 5));
        due("beside 11 of 12", 2, () -> twelve.stretch(11, 5));
        HorizonSeam two = of("stretch 3 9 0;stretch 5 9 0;pulls beside;");
        due("beside 0, 2 being untold", 5, () -> two.stretch(0, 5));
        due("beside 2, being untold", 8, () -> two.stretch(2, 5));

        says("STRAIN (0 to 99), a SEAM (0 to 99), a STITCH (0 plain, 1 back, 2 herringbone)");
        HorizonSeam z = of("stretch 0 0 0;stretch 99 99 2;stretch 099 0099 01;");
        isStretch(z, 0, 0, 0, 0);
        isStretch(z, 1, 99, 99, 2);
        isStretch(z, 2, 99, 99, 1);
        for (String much : new String[] {"100", "0100", "999", "9999", "10000", "00000", "00001", "4294967296"}) {
            fault("stretch " + much + " 0 0;", 2, 8);
            fault("stretch 0 " + much + " 0;", 2, 10);
            fault("stretch 0 0 " + much + ";", 2, 12);
        }
        fault("stretch 0 0 3;", 2, 12);
        fault("stretch 0 0 9;", 2, 12);
    }

    private static void women() {
        says("WOMEN 0, 1 .. (at most 6)");
        HorizonSeam x = of(STRETCH + times("woman 1 0 2;", 5) + "woman 3 0 4;");
        due("women", 6, () -> x.count(1));
        isWoman(x, 4, 1, 0, 2);
        isWoman(x, 5, 3, 0, 4);
        due("the 7th", NO_SUCH, () -> x.woman(6, 0));
        fault(STRETCH + times("woman 1 0 2;", 7), 2, 86);
        fault(STRETCH + times("woman 1 0 2;", 6) + "woman", 2, 86);
        due("none", 0, () -> new HorizonSeam().count(1));

        says("SKILL (0 to 9), a STRETCH, THREAD (0 to 99)");
        HorizonSeam y = of(times(STRETCH, 12) + "woman 0 0 0;woman 9 11 99;woman 09 0011 099;");
        isWoman(y, 0, 0, 0, 0);
        isWoman(y, 1, 9, 11, 99);
        isWoman(y, 2, 9, 11, 99);
        for (String much : new String[] {"10", "99", "0010", "9999", "10000", "00000"}) {
            fault(STRETCH + "woman " + much + " 0 0;", 2, 20);
        }
        for (String much : new String[] {"100", "0100", "9999", "10000", "00000"}) {
            fault(STRETCH + "woman 0 0 " + much + ";", 2, 24);
        }
        fault(STRETCH + "woman 0 00000 0;", 2, 22);
    }

    private static void words() {
        says("WORDS of knots (at most 8)");
        HorizonSeam x = of("knots 1 2 3 4 5 6 7 8;");
        due("words", 8, () -> x.count(2));
        due("the first one", 1, () -> x.readings(1, 0));
        due("the last one", 1, () -> x.readings(8, 0));
        due("no other one", 0, () -> x.readings(9, 0));
        fault("knots 1 2 3 4 5 6 7 8 9;", 2, 22);
        fault("knots 1 2 3 4 5 6 7 8 9", 2, 22);
        due("one", 1, () -> of("knots 0;").count(2));
        due("none", 0, () -> of("").count(2));

        says("a NUMBER of 1 to 4 digits, as it is written (00 is another one than 0)");
        HorizonSeam y = of("knots 0 00 000 0000 9999 1;");
        due("words", 6, () -> y.count(2));
        due("1 and 0, 00, 000, 0000 in 8 ways", 8, () -> y.readings(10000, 0));
        due("9999", 1, () -> y.readings(9999, 0));
        fault("knots 12345;", 2, 6);
        fault("knots 00000;", 2, 6);
        fault("knots 1 00001;", 2, 8);
        due("00 isn't 0", 0, () -> of("knots 00;").readings(0, 0));
        due("0 isn't 00", 2, () -> of("knots 1 0;").readings(100, 0) + of("knots 1 0 00;").readings(10, 0));
        due("0 twice is in one way", 1, () -> of("knots 1 0;").readings(100, 0));
    }

    private static void week() {
        says("WEEK: every how many DAYS there is a THURSDAY (1 to 9; 7 without)");
        for (int week = 1; week <= 9; week++) {
            int many = week;
            due("week " + week, many, () -> of("week " + many + ";").count(3));
        }
        due("without", 7, () -> of(STRETCH).count(3));
        due("without, anew", 7, () -> {
            HorizonSeam x = of("week 3;");
            ring(x, STRETCH);
            return x.count(3);
        });
        due("with noughts", 9, () -> of("week 0009;").count(3));
        for (String much : new String[] {"0", "0000", "10", "0010", "9999", "10000", "00001"}) {
            fault("week " + much + ";", 2, 5);
        }
    }

    private static void lengthOfTheText() {
        says("A TEXT of at most 700 bytes");
        fine(times(" ", 700));
        HorizonSeam x = of(times(" ", 693) + "week 2;");
        due("its last bytes count", 2, () -> x.count(3));
        fault(times("\n", 694) + "week 2", 1, 700);
        fault(times(" ", 699) + "!", 1, 699);
        HorizonSeam y = of("pulls " + times("1+", 340) + "(0-338)" + times(" ", 6) + ";");
        due("a rule as long as it can be", 2, () -> y.stretch(0, 5));
        HorizonSeam z = of("frays " + times("(1)-", 172) + "(0)+4;");
        due("another one", 0, () -> z.stretch(0, 4));
        HorizonSeam v = of("frays 9-(1-(1-(1-(1-(1-0*1+1)+1)+1)+1)+1)" + times("+0", 300) + ";");
        due("within each other, and long", 7, () -> v.stretch(0, 4));
    }

    private static void tokens() {
        says("TOKENS: words (a .. z, the longest row)");
        fine("week1;");
        fault("weeka 1;", 1, 0);
        fault("aweek 1;", 1, 0);
        fault("wee 1;", 1, 0);
        fault("wee k 1;", 1, 0);
        fault("weekweek 1;", 1, 0);
        fault("WEEK 1;", 1, 0);
        fault("weeK 1;", 1, 0);
        fault("frays notstrain;", 3, 6);
        fine("frays not strain;");
        fine("frays 1or 2and 3;");
        fine("frays 1 or2;");
        fault("frays a;", 3, 6);
        fault("frays z;", 3, 6);
        fault("frays `;", 1, 6);
        fault("frays {;", 1, 6);

        says("NUMBERS (1 to 4 digits)");
        fine("frays 0;");
        fine("frays 9999;");
        fine("frays 0000;");
        fault("frays 00000;", 2, 6);
        fault("frays 10000;", 2, 6);
        fault("frays " + times("9", 600) + ";", 2, 6);
        fault("stretch 123 0 0;", 2, 8);
        fault("stretch 1 23 0 0;", 1, 15);
        fine("stretch 1 23 0;");
        fault("frays :;", 1, 6);

        says("blanks (32, 10) between them count for nothing");
        fine("stretch 1 2 0;woman 3 0 4;knots 5;week 6;frays(7);pulls(8)+9;");
        fine("  stretch\n1  2\n\n0 \n;\nwoman   3 0 4 ; knots 5 ;week 6\n;frays ( 7 ) ; pulls\n(\n8\n)\n+\n9 ;\n ");
        fine("stretch1 2 0;");
        fault("stretch12 0;", 1, 11);
        fine("");
        fine(" ");
        fine("\n");
    }

    private static boolean isBlank(int b) {
        return b == 32 || b == 10;
    }

    private static boolean isLetter(int b) {
        return b >= 'a' && b <= 'z';
    }

    private static boolean isDigit(int b) {
        return b >= '0' && b <= '9';
    }

    private static void everyByte() {
        says("a TOKEN that can't stand there, or is none: each of all bytes");
        for (int b = 0; b < 256; b++) {
            char sign = (char) b;
            fault(sign + "week 1;", isBlank(b) ? 0 : 1, isBlank(b) ? NONE : 0);
            fault("week 1;" + sign, isBlank(b) ? 0 : 1, isBlank(b) ? NONE : 7);
            fault("week 1" + sign, b == ';' ? 0 : isDigit(b) ? 2 : 1,
                    b == ';' ? NONE : isDigit(b) ? 5 : isBlank(b) ? 7 : 6);
            String within = "week" + sign + "1;";
            if (isBlank(b) || b == '0') {
                fine(within);
            } else if (isLetter(b)) {
                fault(within, 1, 0);
            } else {
                fault(within, isDigit(b) ? 2 : 1, 4);
            }
            String rule = "frays 1" + sign + "1;";
            if (isDigit(b) || "+-*/<=".indexOf(b) >= 0) {
                fine(rule);
            } else {
                fault(rule, 1, isBlank(b) || b == ';' ? 8 : 7);
            }
        }
    }

    private static void firstFault() {
        says("FAULTS, the first along the text");
        fault("week 0;week 1;", 2, 5);
        fault("week 1;week 0;!", 5, 7);
        fault("frays x;!", 3, 6);
        fault(STRETCH + "woman 0 5 100;", 3, 22);
        fault(STRETCH + "woman 10 5 100;", 2, 20);
        fault("knots 1 1 12345;", 4, 8);
        fault("knots 1 12345 1;", 2, 8);
        fault("frays 12345+x;", 2, 6);
        fault("frays x+12345;", 3, 6);
        fault("stretch 100 100 3", 2, 8);
        fault("! week 0;", 1, 0);
        fault("knots 1;frays 1;frays 1;knots 1;", 5, 16);

        says("at a TOKEN's first byte");
        fault("   \n  weeks", 1, 6);
        fault("week   12;", 2, 7);
        fault("frays 1 + \n strains;", 3, 12);

        says("of one TOKEN the least");
        fault("knots 1 2 3 4 5 6 7 8 8;", 2, 22);
        fault("knots 1 2 3 4 5 6 7 8 12345;", 2, 22);
        fault("week 1 week 1;", 1, 7);
        fault("knots 1 knots 1;", 1, 8);
        fault("frays 1 frays 1;", 1, 8);
        fault("pulls 1;frays 1 pulls 1;", 1, 16);
        fault("frays 1;frays", 5, 8);
        fault("frays 1;frays frays 1;", 5, 8);
        fault("week 1;frays week;", 3, 13);
        fault("frays 1 11111;", 1, 8);
        fault("week 1 11111;", 1, 7);
        fault("11111;", 1, 0);
        fault("frays 1 x;", 1, 8);
        fault(times(STRETCH, 12) + "week 1 stretch", 1, 175);
        fault(STRETCH + times("woman 0 0 0;", 6) + "week 1 woman", 1, 93);
        fault("frays ((((((or", 2, 12);
        fault("frays ((((((x", 2, 12);
        fault("frays ((((((12345", 2, 12);
        fault("frays 1 ((((((1", 1, 8);
        fault("woman 0 12345 0;", 2, 8);
    }

    /** Whatever isn't one of these can't stand behind so much of a text. */
    private static void onlyHere(String ahead, String... can) {
        String[] words = {"stretch", "woman", "knots", "week", "frays", "pulls", "and", "or", "not", "strain", "x", "1",
            "11111", "!", "A", ";", "(", ")", "+", "-", "*", "/", "<", "="};
        for (String word : words) {
            boolean fits = false;
            for (String one : can) {
                fits |= one.equals(word);
            }
            if (!fits) {
                fault(ahead + word, 1, ahead.length());
                fault(ahead + word + " 1;", 1, ahead.length());
            }
        }
        fault(ahead, 1, ahead.length());
    }

    private static void fault1() {
        says("1 a TOKEN that can't stand there");
        for (String ahead : new String[] {"", "week 1; ", STRETCH, "frays 1; "}) {
            for (String word : new String[] {"and", "or", "not", "strain", "x", "1", "11111", "!", "stretches", "wome"}) {
                fault(ahead + word, 1, ahead.length());
            }
            for (String sign : SIGNS) {
                fault(ahead + sign, 1, ahead.length());
            }
        }
        onlyHere("stretch ", "1", "11111");
        onlyHere("stretch 1 ", "1", "11111");
        onlyHere("stretch 1 1 ", "1", "11111");
        onlyHere("stretch 1 1 1 ", ";");
        onlyHere(STRETCH + "woman ", "1", "11111");
        onlyHere(STRETCH + "woman 1 ", "1", "11111");
        onlyHere(STRETCH + "woman 1 0 ", "1", "11111");
        onlyHere(STRETCH + "woman 1 0 1 ", ";");
        onlyHere("knots ", "1", "11111");
        onlyHere("knots 2 ", "1", "11111", ";");
        onlyHere("knots 2 3 4 5 6 7 8 9 ", "1", "11111", ";");
        onlyHere("week ", "1", "11111");
        onlyHere("week 1 ", ";");
    }

    private static void fault1OfRules() {
        says("1 a TOKEN that can't stand there, in an EXPR");
        String[] words = {"stretch", "woman", "knots", "week", "frays", "pulls", "and", "or", "not", "strain", "x"};
        for (String rule : new String[] {"frays ", "pulls "}) {
            for (String ahead : AHEAD_OF_A_PART) {
                String text = rule + ahead;
                for (String cant : new String[] {";", ")", "+", "-", "*", "/", "<", "=", "!", "A"}) {
                    fault(text + cant, 1, text.length());
                }
                fault(text, 1, text.length());
            }
            for (String part : new String[] {"1 ", "strain ", "(1) ", "not 1 ", "1+1 ", "1<1 "}) {
                String text = rule + part;
                for (String word : words) {
                    if (!word.equals("and") && !word.equals("or")) {
                        fault(text + word, 1, text.length());
                    }
                }
                for (String cant : new String[] {"1", "11111", "(", ")", "!", "A"}) {
                    fault(text + cant, 1, text.length());
                }
                fault(text, 1, text.length());
            }
        }
        onlyHere("frays (1 ", "and", "or", ")", "+", "-", "*", "/", "<", "=");
        onlyHere("frays (1) ", "and", "or", ";", "+", "-", "*", "/", "<", "=");
        for (String test : new String[] {"1<2", "1=2", "not 1<2", "1+1<2", "1<2*3"}) {
            fault("frays " + test + "<3;", 1, 6 + test.length());
            fault("frays " + test + "=3;", 1, 6 + test.length());
            fine("frays (" + test + ")<3;");
            fine("frays " + test + " and 1=2 or 1<2;");
        }
        fault("frays not 1 not 1;", 1, 12);
        fault("frays -1;", 1, 6);
    }

    private static void tooSoon() {
        says("the text's length where it ends too soon");
        String text = "stretch 1 2 0 ;\nwoman 3 0 4 ; knots 12 3 ; week 5 ; frays not ( strain + 6 ) and 7 ; pulls 8 ;";
        fine(text);
        boolean[] whole = new boolean[text.length() + 1];
        for (int n = 1; n <= text.length(); n++) {
            whole[n] = n == text.length() || isBlank(text.charAt(n)) || isBlank(text.charAt(n - 1));
        }
        for (int n = 1; n <= text.length(); n++) {
            String part = text.substring(0, n);
            boolean lineEnds = part.trim().endsWith(";");
            if (lineEnds) {
                fine(part);
            } else if (whole[n]) {
                fault(part, 1, n);
                fault(part + "  \n", 1, n + 3);
            }
        }
        fault("week", 1, 4);
        fault("wee", 1, 0);
        HorizonSeam x = new HorizonSeam();
        feedText(x, "week 1;");
        due("ring(6): n is the text's length, not the tape's", 1, () -> x.ring(6));
        due("its place", 6, () -> x.fault());
    }

    private static void fault2() {
        says("2 one that can, but is too much: a NUMBER of 5 digits or more");
        for (String ahead : new String[] {"stretch ", "stretch 1 ", "stretch 1 1 ", "knots ", "knots 1 ", "week ",
            STRETCH + "woman ", STRETCH + "woman 1 ", STRETCH + "woman 1 0 "}) {
            for (String number : new String[] {"10000", "00000", "00001", "123456", "99999999999999999999"}) {
                fault(ahead + number, 2, ahead.length());
                fault(ahead + number + ";", 2, ahead.length());
            }
        }
        for (String ahead : AHEAD_OF_A_PART) {
            fault("frays " + ahead + "10000;", 2, 6 + ahead.length());
            fault("pulls " + ahead + "00000;", 2, 6 + ahead.length());
        }

        says("(not in an EXPR) not as told");
        fine("frays 9999;pulls 9999;");
        fine("frays 100+10;");
        fault("stretch 100 1 1;", 2, 8);

        says("the first TOKEN of the 13th STRETCH, the 7th WOMAN, the 9th WORD");
        fault(times(STRETCH, 12) + "  stretch 0 0 0;", 2, 170);
        fault(times(STRETCH, 12) + "  stretch !", 2, 170);
        fine(times(STRETCH, 12) + "week 1;");
        fault(STRETCH + times("woman 0 0 0;", 6) + " woman 0 0 0;", 2, 87);
        fault(STRETCH + times("woman 0 0 0;", 6) + " woman !", 2, 87);
        fine(STRETCH + times("woman 0 0 0;", 6) + STRETCH);
        fault("knots 1 2 3 4 5 6 7 8  9!", 2, 23);
        fine("knots 1 2 3 4 5 6 7 8  ;");
    }

    private static void fault2OfRules() {
        says("of an EXPR within 6 others (a NUMBER, any word, a parenthesis)");
        for (String rule : new String[] {"frays ", "pulls "}) {
            for (String ahead : AHEAD_OF_A_PART) {
                // One of these has parentheses of its own.
                int more = ahead.endsWith("(") ? 5 : 6;
                String close = times(")", 6);
                String text = rule + ahead + times("(", more);
                fine(rule + ahead + times("(", more - 1) + "1" + times(")", 5) + ";");
                fault(text + "1" + close + ";", 2, text.length());
                fault(text + "(1" + close + ");", 2, text.length());
                for (String word : VALUES) {
                    fault(text + word + close + ";", 2, text.length());
                }
                for (String word : new String[] {"not", "and", "or", "x", "week", "frays"}) {
                    fault(text + word, 2, text.length());
                }
                for (String cant : new String[] {";", ")", "+", "-", "*", "/", "<", "=", "!"}) {
                    fault(text + cant, 1, text.length());
                }
                fault(text, 1, text.length());
                fault(text + "  ", 1, text.length() + 2);
            }
        }
        fine("frays (((((1)))))+(((((2)))))*(((((3)))));");
        fine("frays (((((1)+(2))+(3))+(4))+(5))+(6);");
        fault("frays (((((1)+((2)))+(3))+(4))+(5))+(6);", 2, 16);

        says("the seventh 'not' side by side");
        String six = times("not ", 6);
        for (String ahead : new String[] {"", "1 and ", "1 or ", "(", "1+(", "(((("}) {
            String text = "frays " + ahead + six;
            String close = times(")", ahead.length() - ahead.replace("(", "").length()) + ";";
            fine(text + "1" + close);
            fine(text + "(1)" + close);
            fine(text + "1 and " + six + "1 or " + six + "1" + close);
            fault(text + "not 1" + close, 2, text.length());
            fault(text + "not", 2, text.length());
            fault(text + "not not", 2, text.length());
            fault(text + "or", 3, text.length());
            fault(text + ";", 1, text.length());
        }
        fine("frays " + six + "(" + six + "1);");
        fault("frays " + six + "(" + six + "not 1);", 2, 55);
    }

    private static void fault3() {
        says("3 any word where a PART must stand that is no VALUE");
        String[] noValues = {"and", "or", "x", "strains", "strai", "eam", "days", "woman", "besides", "stitc", "none"};
        for (String ahead : AHEAD_OF_A_PART) {
            String text = "frays " + ahead;
            for (String word : noValues) {
                fault(text + word, 3, text.length());
                fault(text + word + ";", 3, text.length());
            }
            for (String word : LINE_WORDS) {
                fault(text + word + " 1;", 3, text.length());
            }
            for (String word : VALUES) {
                HorizonSeam x = new HorizonSeam();
                due("a value behind '" + ahead + "'", 0, () -> ring(x, text + word + (ahead.endsWith("(") ? ")" : "") + ";"));
            }
        }
        for (String ahead : new String[] {"1<", "1=", "1+", "1-", "1*", "1/", "not 1<", "1 and 1+"}) {
            fault("frays " + ahead + "not 1;", 3, 6 + ahead.length());
        }

        says("3 a STRETCH that isn't told ahead");
        fault("woman 0 0 0;", 3, 8);
        fault("woman 0 0 0;" + STRETCH, 3, 8);
        for (int told = 1; told <= 12; told++) {
            String ahead = times(STRETCH, told) + "woman 0 ";
            fine(ahead + (told - 1) + " 0;");
            fault(ahead + told + " 0;", 3, ahead.length());
            fault(ahead + told + " 0;" + STRETCH, 3, ahead.length());
        }
        // Not those that are there, but untold.
        fault(STRETCH + "woman 0 2 0;", 3, 22);
        fault(STRETCH + "woman 0 9999 0;", 3, 22);
        fine(STRETCH + "woman 0 0 0;" + STRETCH + "woman 0 1 0;");
    }

    private static void fault4and5() {
        says("4 a WORD that is told already");
        fault("knots 7 7;", 4, 8);
        fault("knots 1 2 3 4 5 6 7 1;", 4, 20);
        fault("knots 1 2 3 4 5 6 7 7;", 4, 20);
        fault("knots 0000 000 00 0 00;", 4, 20);
        fault("knots 9999 9999;", 4, 11);
        fine("knots 1 01 001 0001 10 100 1000 11;");

        says("5 a second 'knots', 'week', 'frays', 'pulls'");
        for (String line : new String[] {"knots 1;", "week 1;", "frays 1;", "pulls 1;"}) {
            fault(line + line, 5, line.length());
            fault(line + " \n" + line, 5, line.length() + 2);
            fault(line + STRETCH + line, 5, line.length() + 14);
            fault(line + line.substring(0, 5), 5, line.length());
        }
        fault("knots 1;knots 2;", 5, 8);
        fine("pulls 1;week 1;frays 1;knots 1;");
        fine(STRETCH + STRETCH + "woman 0 0 0;woman 0 0 0;");
        HorizonSeam x = of("knots 1;week 1;frays 1;pulls 1;");
        due("not by those of a ring ahead of it", 0, () -> ring(x, "knots 1;week 1;frays 1;pulls 1;"));
        due("nor by those of one that has a fault", 1, () -> ring(x, "knots 1;week 1;frays 1;pulls 1;!"));
        due("the same again", 0, () -> ring(x, "knots 1;week 1;frays 1;pulls 1;"));
    }

    /** What an EXPR is worth to stretch 1, as long as it is -9 to 9. */
    private static void worth(String expr, int want) {
        HorizonSeam x = of("stretch 1 50 2;stretch 2 50 1;stretch 4 50 0;woman 1 1 1;woman 1 1 1;pulls " + expr + ";");
        due("worth of " + expr, want, () -> x.stretch(1, 5));
    }

    private static void worthOfRules() {
        says("From the left");
        worth("9-5-3", 1);
        worth("9-5+3", 7);
        worth("8/4*2", 4);
        worth("8*2/4", 4);
        worth("7/2/2", 1);
        worth("2+3*2", 8);
        worth("2*3-2", 4);
        worth("1-(2-3)", 2);

        says("ints that wrap");
        worth("1024*1024*2048<0", 1);
        worth("1024*1024*2048-1<0", 0);
        worth("1024*1024*2048+1024*1024*2048", 0);
        worth("1024*1024*4096+5", 5);
        worth("0-1024*1024*2048<0", 1);
        worth("0-1024*1024*2048=1024*1024*2048", 1);

        says("/ cut down to 0, by 0 gives 0");
        worth("7/4", 1);
        worth("(0-7)/4", -1);
        worth("7/(0-4)", -1);
        worth("(0-7)/(0-4)", 1);
        worth("3/4", 0);
        worth("(0-3)/4", 0);
        worth("5/0", 0);
        worth("(0-5)/0", 0);
        worth("0/0", 0);
        worth("5/(1-1)+2", 2);
        worth("(1024*1024*2048)/(0-1)=1024*1024*2048", 1);

        says("tests, not, and, or are 1 or 0 (what isn't 0 holds)");
        worth("1<2", 1);
        worth("2<1", 0);
        worth("2<2", 0);
        worth("0-1<0", 1);
        worth("2=2", 1);
        worth("2=1", 0);
        worth("not 0", 1);
        worth("not 1", 0);
        worth("not 7", 0);
        worth("not (0-7)", 0);
        worth("not not 7", 1);
        worth("not not 0", 0);
        worth("not not not not not not 7", 1);
        for (int x = 0; x <= 1; x++) {
            for (int y = 0; y <= 1; y++) {
                worth(7 * x + " and " + 5 * y, x & y);
                worth(7 * x + " or " + 5 * y, x | y);
            }
        }
        worth("0-7 and 0-5", 1);
        worth("0-7 or 0", 1);
        worth("4 and 2", 1);
        worth("1 and 1 and 0", 0);
        worth("0 or 0 or 3", 1);
        worth("1 or 1 and 0", 1);
        worth("0 and 1 or 1", 1);
        worth("0 and (1 or 1)", 0);
        worth("not 0 and 0", 0);
        worth("not (0 and 0)", 1);
        worth("not 1<0", 1);
        worth("1<2 and 2<3", 1);
        worth("7", 7);
        worth("(7)", 7);
    }

    private static void values() {
        says("VALUES of a STRETCH");
        worth("strain", 2);
        worth("seam-44", 6);
        worth("stitch", 1);
        worth("beside", 5);
        worth("women", 2);
        worth("day", 0);
        HorizonSeam x = of("stretch 3 80 2;stretch 0 9 0;stretch 0 9 0;woman 0 1 0;pulls 5*women+day;frays stitch;");
        due("no women at it", 0, () -> x.stretch(0, 5));
        due("one", 5, () -> x.stretch(1, 5));
        x.days(4);
        due("day 4", 4, () -> x.stretch(0, 5));
        x.stitch(0, 1);
        due("another stitch", 1, () -> x.stretch(0, 4));
        HorizonSeam open = of("stretch 3 0 0;stretch 0 9 0;stretch 4 0 0;pulls beside;");
        due("open ones beside count", 7, () -> open.stretch(1, 5));
        HorizonSeam six = of(STRETCH + times("woman 0 0 0;", 6) + "frays women;");
        due("six women", 6, () -> six.stretch(0, 4));
        due("none", 0, () -> six.stretch(1, 4));
    }
}
