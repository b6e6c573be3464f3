/** Each promise of the document by itself: ordinary inputs, the edges it names, and wrong inputs. */
public final class PromisesTest extends Checks {
    /** 18/5, 0/10, 45/4, 9/20 back; two women; Thursday is every second day. */
    private static final String FOUR = "stretch 18 5 0;stretch 0 10 0;stretch 45 4 0;stretch 9 20 1;"
            + "woman 2 0 3;woman 4 2 1;week 2;knots 1 12 2 00;";

    public static void main(String[] args) {
        texts();
        rules();
        now();
        acts();
        days();
        ahead();
        advice();
        rows();
        knots();
        sights();
        chances();
        images();
        end("all promises hold");
    }

    private static void texts() {
        says("1");
        HorizonSeam fresh = new HorizonSeam();
        due("count(0)", 3, () -> fresh.count(0));
        due("count(1)", 0, () -> fresh.count(1));
        due("count(2)", 0, () -> fresh.count(2));
        due("count(3)", 7, () -> fresh.count(3));
        due("stretch(2, 1)", 50, () -> fresh.stretch(2, 1));
        due("stretch(2, 0)", 0, () -> fresh.stretch(2, 0));
        due("stretch(2, 2)", 0, () -> fresh.stretch(2, 2));
        due("fault()", -1, () -> fresh.fault());

        says("2");
        HorizonSeam tape = new HorizonSeam();
        for (int k = 1; k <= 35; k++) {
            int many = 20 * k;
            due("feed " + k, many, () -> tape.feed(0x73747265, 0, -1, 1, 2));
        }
        due("the 36th feed", -1, () -> tape.feed(1, 2, 3, 4, 5));
        due("count(11)", 700, () -> tape.count(11));
        due("ring(4)", 1, () -> tape.ring(4));
        due("feed behind ring", 20, () -> tape.feed(0, 0, 0, 0, 0));

        says("3");
        HorizonSeam x = of(FOUR);
        x.days(3);
        x.see(0, 0, 0);
        x.image();
        due("ring(-1)", ILLEGAL, () -> x.ring(-1));
        due("ring(1) of an empty tape", ILLEGAL, () -> x.ring(1));
        feedText(x, "stretch 1 1 3;");
        due("ring(21)", ILLEGAL, () -> x.ring(21));
        due("count(11)", 20, () -> x.count(11));
        due("count(12)", 0, () -> x.count(12));
        due("ring(14)", 2, () -> x.ring(14));
        due("count(11)", 0, () -> x.count(11));
        due("count(12)", 1, () -> x.count(12));
        due("all stays: the day", 3, () -> x.count(4));
        due("all stays: acts", 1, () -> x.count(9));
        due("all stays: seen", 1, () -> x.count(10));
        due("all stays: the image", 1, () -> x.restore() ? 1 : 0);
        due("all stays: words", 4, () -> x.count(2));
        x.mend(1);
        x.mend(1);
        int refused = x.count(13);
        due("ring(0)", 0, () -> x.ring(0));
        due("anew: stretches", 3, () -> x.count(0));
        due("anew: women", 0, () -> x.count(1));
        due("anew: words", 0, () -> x.count(2));
        due("anew: week", 7, () -> x.count(3));
        due("anew: the day", 0, () -> x.count(4));
        due("anew: acts", 0, () -> x.count(9));
        due("anew: seen", 0, () -> x.count(10));
        due("anew: the image", 0, () -> x.restore() ? 1 : 0);
        due("status stays", 1, () -> x.count(12));
        due("status stays", refused, () -> x.count(13));
        HorizonSeam two = of("stretch 9 8 1;stretch 7 6 2;");
        due("filled up to 3", 3, () -> two.count(0));
        due("its seam", 50, () -> two.stretch(2, 1));
        due("the told one's", 6, () -> two.stretch(1, 1));

        says("4");
        due("fault()", -1, () -> two.fault());
        due("ring of ';'", 1, () -> ring(two, "  ;"));
        due("fault()", 2, () -> two.fault());
        due("ring(9)", ILLEGAL, () -> two.ring(9));
        due("fault()", 2, () -> two.fault());
        due("ring(0)", 0, () -> two.ring(0));
        due("fault()", -1, () -> two.fault());
        faults();
    }

    private static void faults() {
        says("3 and 4, fault 1");
        fine("");
        fine(" \n ");
        fine("week\n3 ;stretch 0 0 0\n;");
        fine("stretch 099 0099 002;");
        fault("Week 3;", 1, 0);
        fault("week\t3;", 1, 4);
        fault("week " + (char) 200 + ";", 1, 5);
        fault("weeks 3;", 1, 0);
        fault("3;", 1, 0);
        fault("strain 3;", 1, 0);
        fault("week", 1, 4);
        fault("week  ", 1, 6);
        fault("week 3", 1, 6);
        fault("week 3 ", 1, 7);
        fault("week 3 4;", 1, 7);
        fault("week 3 44444;", 1, 7);
        fault("week ;", 1, 5);
        fault("week3;;", 1, 6);
        fault("stretch 1 2 stitch;", 1, 12);
        fault("woman;", 1, 5);
        fault("knots x;", 1, 6);
        fault("knots 1 x;", 1, 8);
        fault("frays;", 1, 5);
        fault("frays 1 2;", 1, 8);
        fault("frays 1 strain;", 1, 8);
        fault("frays 1 not 2;", 1, 8);
        fault("frays (1;", 1, 8);
        fault("frays 1);", 1, 7);
        fault("frays ();", 1, 7);
        fault("frays -1;", 1, 6);
        fault("frays 1+;", 1, 8);
        fault("frays 1+", 1, 8);
        fault("frays 1<2<3;", 1, 9);
        fault("frays 1=2<3;", 1, 9);
        fault("frays 1 > 2;", 1, 8);
        fault("frays ((((((", 1, 12);
        fault("frays (((((();", 1, 12);
        fault("frays ((((((+1))))));", 1, 12);

        says("3 and 4, fault 2");
        fault("stretch 100 0 0;", 2, 8);
        fault("stretch 0 100 0;", 2, 10);
        fault("stretch 0 0 3;", 2, 12);
        fault("stretch 00000 0 0;", 2, 8);
        fault("stretch 0 0 0;woman 10 0 0;", 2, 20);
        fault("stretch 0 0 0;woman 0 0 100;", 2, 24);
        fault("stretch 0 0 0;woman 0 00000 0;", 2, 22);
        fault("week 0;", 2, 5);
        fault("week 10;", 2, 5);
        fine("week 9;");
        fine("week 0001;");
        fault("knots 10000;", 2, 6);
        fine("knots 0000 000 00 0 1 2 3 4;");
        fault("knots 0000 000 00 0 1 2 3 4 5;", 2, 28);
        fault("knots 0000 000 00 0 1 2 3 4 4;", 2, 28);
        fault("frays 10000;", 2, 6);
        fine("frays 9999;");
        String stretch = "stretch 0 1 0;";
        fine(times(stretch, 12));
        fault(times(stretch, 13), 2, 12 * 14);
        fine(stretch + times("woman 0 0 0;", 6));
        fault(stretch + times("woman 0 0 0;", 7), 2, 14 + 72);
        fine("frays (((((1)))));");
        fine("frays (((((not 1)))))+(((((2)))));");
        fault("frays ((((((1))))));", 2, 12);
        fault("frays ((((((not 1))))));", 2, 12);
        fault("frays ((((((or))))));", 2, 12);
        fault("frays (((((((1)))))));", 2, 12);
        fault("pulls 1+((((( 1 * (2))))));", 2, 19);
        fine("frays not not not not not not 1;");
        fault("frays not not not not not not not 1;", 2, 30);
        fine("frays not not not not not not (not 1);");
        fine("frays not not not not not not 1 and not not not 1;");

        says("3 and 4, fault 3");
        fault("woman 0 0 0;", 3, 8);
        fault("stretch 0 1 0;woman 0 1 0;", 3, 22);
        fault("stretch 0 1 0;woman 0 9999 0;stretch 0 1 0;", 3, 22);
        fine("stretch 0 1 0;stretch 0 1 0;woman 0 1 0;");
        fault("frays or;", 3, 6);
        fault("frays strains;", 3, 6);
        fault("frays 1+not 2;", 3, 8);
        fault("frays 1<not 2;", 3, 8);
        fault("frays not and;", 3, 10);
        fault("frays (week);", 3, 7);
        fault("frays 1 and or 1;", 3, 12);
        for (String word : new String[] {"stretch", "woman", "knots", "week", "frays", "pulls", "and", "zzz", "a"}) {
            fault("frays " + word + ";", 3, 6);
            fault("pulls 1*" + word + ";", 3, 8);
        }

        says("3 and 4, fault 4");
        fault("knots 1 1;", 4, 8);
        fault("knots 01 1 01;", 4, 11);
        fine("knots 01 1 001;");

        says("3 and 4, fault 5");
        fault("knots 1;knots 2;", 5, 8);
        fault("week 1;week 1;", 5, 7);
        fault("frays 1;frays 1;", 5, 8);
        fault("pulls 1;pulls 1;", 5, 8);
        fine("pulls 1;frays 1;");
        fault("week 1;" + times(" ", 689) + "week", 5, 696);
        fine(times(" ", 693) + "week 1;");
    }

    /** What an EXPR is worth, by a rule of few that can't be kept away from -9 to 9. */
    private static void worth(String expr, int want) {
        HorizonSeam x = of("stretch 1 50 2;stretch 2 50 1;stretch 4 50 0;woman 1 1 1;woman 1 1 1;pulls " + expr + ";");
        due("worth of " + expr, want, () -> x.stretch(1, 5));
    }

    private static void rules() {
        says("6, rules");
        worth("1+2*3", 7);
        worth("9-2-3", 4);
        worth("8/4/2", 1);
        worth("7/2*2", 6);
        worth("(0-7)/2", -3);
        worth("5/0", 0);
        worth("0/0+3", 3);
        worth("(1+2)*3", 9);
        worth("1<2", 1);
        worth("2<2", 0);
        worth("2=2", 1);
        worth("1+1=2", 1);
        worth("not 0", 1);
        worth("not 5", 0);
        worth("not not 5", 1);
        worth("not 1=2", 1);
        worth("not 0+1", 0);
        worth("5 and 3", 1);
        worth("5 and 0", 0);
        worth("0 or 7", 1);
        worth("0 or 0", 0);
        worth("1 or 0 and 0", 1);
        worth("not 0 and 0", 0);
        worth("7", 7);
        worth("strain", 2);
        worth("seam-45", 5);
        worth("stitch", 1);
        worth("beside", 5);
        worth("women", 2);
        worth("day", 0);
        worth("99", 9);
        worth("0-99", -9);
        // 2 to the power of 31 wraps to the least int.
        worth("(1024*1024*2048)", -9);
        worth("1024*1024*2048-1", 9);
        worth("(1024*1024*2048)/(0-1)", -9);
        worth("1024*1024*4096+3", 3);
        HorizonSeam x = of("stretch 1 50 2;frays day;week 5;");
        x.days(4);
        due("frays day", 4, () -> x.stretch(0, 4));
        due("frays are kept", 20, () -> of("frays 21;").stretch(0, 4));
        due("frays are kept", 0, () -> of("frays 0-1;").stretch(0, 4));
        due("a rule doesn't know of stitches", 6, () -> of("stretch 0 9 2;frays 6;").stretch(0, 4));
    }

    private static void now() {
        says("5");
        HorizonSeam x = of("stretch 1 0 0;stretch 2 20 0;stretch 3 0 0;stretch 4 7 1;week 3;knots 1 2;"
                + "woman 1 1 0;woman 1 1 4;woman 1 3 5;woman 1 3 6;");
        int[] want = {4, 4, 2, 3, 0, 5, 27, 15, 1 | 2 | 8, 0, 0, 0, 0, 0, 0};
        for (int k = 0; k < want.length; k++) {
            int what = k;
            due("count(" + k + ")", want[k], () -> x.count(what));
        }
        due("count(15)", NO_SUCH, () -> x.count(15));
        due("count(-1)", NO_SUCH, () -> x.count(-1));
        x.days(2);
        x.see(1, 0, 0);
        x.see(1, 0, 100);
        x.days(0);
        x.feed(0, 0, 0, 0, 0);
        due("the day", 2, () -> x.count(4));
        due("acts", 1, () -> x.count(9));
        due("seen", 1, () -> x.count(10));
        due("the tape", 20, () -> x.count(11));
        due("acts refused", 1, () -> x.count(13));
        due("sights refused", 1, () -> x.count(14));

        says("6");
        HorizonSeam y = of(FOUR);
        int[][] of2 = {{18, 5, 0, 1, 2, -3}, {0, 10, 0, 0, 0, 7}, {45, 4, 0, 2, 5, -9}, {9, 20, 1, 0, 0, 5}};
        for (int i = 0; i < 4; i++) {
            for (int k = 0; k < 6; k++) {
                int stretch = i;
                int what = k;
                due("stretch(" + i + ", " + k + ")", of2[i][k], () -> y.stretch(stretch, what));
            }
        }
        due("stretch(4, 0)", NO_SUCH, () -> y.stretch(4, 0));
        due("stretch(-1, 0)", NO_SUCH, () -> y.stretch(-1, 0));
        due("stretch(0, 6)", NO_SUCH, () -> y.stretch(0, 6));
        due("stretch(0, -1)", NO_SUCH, () -> y.stretch(0, -1));
        due("of an open one", 0, () -> of("stretch 90 0 0;").stretch(0, 4));
        due("of an open one", 0, () -> of("stretch 90 0 0;").stretch(0, 5));
        due("an open one keeps its strain", 90, () -> of("stretch 90 0 0;").stretch(0, 0));
        due("plain", 11, () -> of("stretch 99 9 0;").stretch(0, 4));
        due("back", 5, () -> of("stretch 99 9 1;").stretch(0, 4));
        due("herringbone", 3, () -> of("stretch 99 9 2;").stretch(0, 4));
        due("kept to 9", 9, () -> of("stretch 99 9 2;stretch 0 9 0;stretch 99 9 0;").stretch(1, 5));
        due("cut down to 0", 0, () -> of("stretch 4 9 2;").stretch(0, 5));

        says("7");
        int[] of0 = {2, 0, 3};
        for (int k = 0; k < 3; k++) {
            int what = k;
            due("woman(0, " + k + ")", of0[k], () -> y.woman(0, what));
        }
        due("woman(1, 0)", 4, () -> y.woman(1, 0));
        due("woman(2, 0)", NO_SUCH, () -> y.woman(2, 0));
        due("woman(-1, 0)", NO_SUCH, () -> y.woman(-1, 0));
        due("woman(0, 3)", NO_SUCH, () -> y.woman(0, 3));
        due("woman(0, -1)", NO_SUCH, () -> y.woman(0, -1));
    }

    private static void acts() {
        says("9");
        HorizonSeam x = of("stretch 0 90 0;stretch 0 0 0;stretch 0 9 0;woman 9 0 2;woman 0 1 1;" + STILL);
        due("mend(0), 99 at most", 99, () -> x.mend(0));
        due("her thread", 1, () -> x.woman(0, 2));
        due("she stays", 0, () -> x.woman(0, 1));
        due("mend(1) of an open one", 3, () -> x.mend(1));
        due("mend(1) without thread", -1, () -> x.mend(1));
        due("status", 1, () -> x.count(13));
        due("mend(2)", NO_SUCH, () -> x.mend(2));
        due("mend(-1)", NO_SUCH, () -> x.mend(-1));
        due("status", 1, () -> x.count(13));

        says("10");
        due("go(0, 2)", 0, () -> x.go(0, 2));
        due("go(0, 2)", -1, () -> x.go(0, 2));
        due("status", 2, () -> x.count(13));
        due("go(0, 3)", NO_SUCH, () -> x.go(0, 3));
        due("go(2, 0)", NO_SUCH, () -> x.go(2, 0));
        due("where she is", 2, () -> x.woman(0, 1));

        says("11");
        due("stitch(1, 2)", 0, () -> x.stitch(1, 2));
        due("stitch(1, 1)", 2, () -> x.stitch(1, 1));
        due("stitch(1, 1)", -1, () -> x.stitch(1, 1));
        due("stitch(1, 3)", -1, () -> x.stitch(1, 3));
        due("stitch(1, -1)", -1, () -> x.stitch(1, -1));
        due("status", 5, () -> x.count(13));
        due("stitch(3, 7)", NO_SUCH, () -> x.stitch(3, 7));
        due("its stitch", 1, () -> x.stretch(1, 2));

        says("12");
        due("thread(1, 50)", 50, () -> x.thread(1, 50));
        due("thread(1, 50), 99 at most", 99, () -> x.thread(1, 50));
        due("thread(1, 1)", 99, () -> x.thread(1, 1));
        due("thread(1, 0)", -1, () -> x.thread(1, 0));
        due("thread(1, 51)", -1, () -> x.thread(1, 51));
        due("status", 7, () -> x.count(13));
        due("thread(2, 51)", NO_SUCH, () -> x.thread(2, 51));

        says("13");
        HorizonSeam y = of("stretch 41 20 0;stretch 90 9 0;stretch 50 0 0;stretch 3 50 1;");
        due("tear(0, 0)", -1, () -> y.tear(0, 0));
        due("tear(0, 51)", -1, () -> y.tear(0, 51));
        due("tear(2, 1) of an open one", -1, () -> y.tear(2, 1));
        due("status", 3, () -> y.count(13));
        due("tear(4, 0)", NO_SUCH, () -> y.tear(4, 0));
        due("tear(0, 19)", 1, () -> y.tear(0, 19));
        due("strain stays", 41, () -> y.stretch(0, 0));
        due("tear(0, 50)", 0, () -> y.tear(0, 50));
        due("its strain is gone", 0, () -> y.stretch(0, 0));
        due("half of it, 99 at most", 99, () -> y.stretch(1, 0));
        due("half of it", 23, () -> y.stretch(3, 0));
        due("tear(1, 9)", 0, () -> y.tear(1, 9));
        due("no more for what is open", 0, () -> y.stretch(0, 0));
        due("no more for what is open", 50, () -> y.stretch(2, 0));

        says("14");
        due("undo()", 2, () -> y.undo());
        due("undone: seam", 9, () -> y.stretch(1, 1));
        due("undone: strain", 99, () -> y.stretch(1, 0));
        due("undo()", 1, () -> y.undo());
        due("undo()", 0, () -> y.undo());
        due("undone: strain", 90, () -> y.stretch(1, 0));
        due("undone: seam", 20, () -> y.stretch(0, 1));
        due("undo()", -1, () -> y.undo());
        due("status counts no undo", 3, () -> y.count(13));
        for (int many = x.undo(); many > 0; many = x.undo()) {
            due("acts", many, () -> x.count(9));
        }
        due("all undone: thread", 2, () -> x.woman(0, 2));
        due("all undone: where", 0, () -> x.woman(0, 1));
        due("all undone: stitch", 0, () -> x.stretch(1, 2));
        due("all undone: seam", 0, () -> x.stretch(1, 1));
        for (int k = 1; k <= 45; k++) {
            x.days(1);
        }
        due("acts that are kept", 40, () -> x.count(9));
        for (int k = 39; k >= 0; k--) {
            int left = k;
            due("undo()", left, () -> x.undo());
            due("the day", 5 + left, () -> x.count(4));
        }
        due("undo()", -1, () -> x.undo());
    }

    private static void days() {
        says("8");
        HorizonSeam x = new HorizonSeam();
        due("days(0)", -1, () -> x.days(0));
        due("days(21)", -1, () -> x.days(21));
        due("days(-1)", -1, () -> x.days(-1));
        due("days(max)", -1, () -> x.days(Integer.MAX_VALUE));
        for (int k = 1; k <= 49; k++) {
            int day = 20 * k;
            due("days(20)", day, () -> x.days(20));
        }
        due("days(20) above 999", -1, () -> x.days(20));
        due("days(19)", 999, () -> x.days(19));
        due("days(1) above 999", -1, () -> x.days(1));
        due("status", 6, () -> x.count(13));

        says("8, a day");
        HorizonSeam y = of(FOUR);
        due("days(1)", 1, () -> y.days(1));
        // Pulls: 15, 7, 36, 14. Frays: 1, 0, 4 (opens: 18 for each beside), 3 by half.
        int[] strain = {15, 25, 0, 32};
        int[] seam = {4, 10, 0, 19};
        for (int i = 0; i < 4; i++) {
            int stretch = i;
            due("strain of " + i, strain[i], () -> y.stretch(stretch, 0));
            due("seam of " + i, seam[i], () -> y.stretch(stretch, 1));
        }
        // Pulls: 15+(57-30)/9=18, 25+(15-50)/9=22, open, 32+(15-64)/9=27. Frays: 2, 2, -, 3/2.
        // Thursday: 0 mends 0 by 7, 1 mends 2 by 11, both go on.
        due("days(1)", 2, () -> y.days(1));
        int[] strain2 = {18, 22, 0, 27};
        int[] seam2 = {9, 8, 11, 18};
        for (int i = 0; i < 4; i++) {
            int stretch = i;
            due("strain of " + i, strain2[i], () -> y.stretch(stretch, 0));
            due("seam of " + i, seam2[i], () -> y.stretch(stretch, 1));
        }
        due("she goes on", 1, () -> y.woman(0, 1));
        due("she goes on", 3, () -> y.woman(1, 1));
        due("thread", 2, () -> y.woman(0, 2));
        due("thread", 0, () -> y.woman(1, 2));
        y.days(2);
        due("she goes on without thread", 0, () -> y.woman(1, 1));
        due("one act", 3, () -> y.count(9));

        // What opens changes what those behind it fray by on the same day, not those ahead of it.
        HorizonSeam z = of("stretch 0 9 0;stretch 80 1 0;stretch 0 9 0;pulls 0;");
        z.days(1);
        due("ahead of it", 9, () -> z.stretch(0, 1));
        due("behind it: 40 by 9", 5, () -> z.stretch(2, 1));
        // All at once: rules see the day as it begins.
        HorizonSeam v = of("stretch 10 50 0;stretch 20 50 0;stretch 30 50 0;pulls beside=50;frays 0;");
        v.days(1);
        due("beside as it begins", 11, () -> v.stretch(0, 0));
        due("beside as it begins", 20, () -> v.stretch(1, 0));
        // Within 0 to 99; open ones don't pull.
        HorizonSeam u = of("stretch 95 50 0;stretch 3 50 0;stretch 30 0 0;pulls strain-50;frays 0;");
        u.days(1);
        due("99 at most", 99, () -> u.stretch(0, 0));
        due("0 at least", 0, () -> u.stretch(1, 0));
        due("open: as it was", 30, () -> u.stretch(2, 0));
        // A week of 1: each day is a Thursday; two at one stretch mend one behind the other.
        HorizonSeam t = of("stretch 0 0 0;woman 1 0 1;woman 2 0 2;week 1;" + STILL);
        t.days(1);
        due("both mend", 12, () -> t.stretch(0, 1));
        due("both go on", 3, () -> t.stretch(1, 3));
        t.days(1);
        due("one has thread", 57, () -> t.stretch(1, 1));
        HorizonSeam s = of("stretch 0 1 0;woman 0 0 1;" + STILL);
        s.days(6);
        due("a week of 7", 1, () -> s.stretch(0, 1));
        s.days(1);
        due("a week of 7", 4, () -> s.stretch(0, 1));
    }

    private static void ahead() {
        says("15");
        HorizonSeam x = of(FOUR);
        due("then(0, 0, 0)", 18, () -> x.then(0, 0, 0));
        due("then(0, 0, 1)", 5, () -> x.then(0, 0, 1));
        due("then(3, 2, 0)", 27, () -> x.then(3, 2, 0));
        due("then(3, 2, 1)", 18, () -> x.then(3, 2, 1));
        due("then(0, 60, 0) is fine", 1, () -> x.then(0, 60, 0) >= 0 ? 1 : 0);
        due("then(4, 61, 0)", NO_SUCH, () -> x.then(4, 61, 0));
        due("then(0, 61, 2)", NO_SUCH, () -> x.then(0, 61, 2));
        due("then(0, 61, 0)", ILLEGAL, () -> x.then(0, 61, 0));
        due("then(0, -1, 1)", ILLEGAL, () -> x.then(0, -1, 1));
        due("nothing changes", 0, () -> x.count(4));

        says("16");
        due("later(1, 0)", 4, () -> x.later(1, 0));
        due("later(1, 1)", 3, () -> x.later(1, 1));
        due("later(1, 2)", 32, () -> x.later(1, 2));
        due("later(0, 3)", 0, () -> x.later(0, 3));
        due("later(2, 3)", 2, () -> x.later(2, 3));
        due("later(6, 3)", 4, () -> x.later(6, 3));
        due("later(60, 3)", 4, () -> x.later(60, 3));
        due("tightest of like ones", 1, () -> of("stretch 1 5 0;stretch 2 5 0;stretch 2 5 0;").later(0, 1));
        due("later(61, 4)", NO_SUCH, () -> x.later(61, 4));
        due("later(61, 0)", ILLEGAL, () -> x.later(61, 0));
        due("later(-1, 3)", ILLEGAL, () -> x.later(-1, 3));
        due("later(0, -1)", NO_SUCH, () -> x.later(0, -1));

        says("17");
        due("opens(2)", 1, () -> x.opens(2));
        HorizonSeam y = of("stretch 0 0 0;stretch 0 60 0;stretch 0 61 0;frays 1;pulls 0;");
        due("opens(0) now", 0, () -> y.opens(0));
        due("opens(1)", 60, () -> y.opens(1));
        due("opens(2)", -1, () -> y.opens(2));
        due("opens(3)", NO_SUCH, () -> y.opens(3));
        // It opens on the Thursday and is mended on it: behind the day it isn't open.
        HorizonSeam z = of("stretch 0 1 0;woman 0 0 1;week 1;frays 1-day;pulls 0;");
        due("mended on the day it opens", -1, () -> z.opens(0));

        says("18");
        due("first()", 2, () -> x.first());
        due("first()", 1, () -> y.first());
        due("first() of like ones", 1, () -> of("stretch 0 9 0;stretch 0 4 0;stretch 0 4 0;frays 2;").first());
        due("first(), none", -1, () -> of("stretch 0 0 0;stretch 0 61 0;stretch 0 61 0;frays 1;").first());
        due("first(), all open", -1, () -> of(times("stretch 0 0 0;", 3)).first());

        says("19");
        due("where(0, 0, 0)", 0, () -> x.where(0, 0, 0));
        due("where(1, 4, 0)", 0, () -> x.where(1, 4, 0));
        due("where(0, 60, 0)", 30 % 4, () -> x.where(0, 60, 0));
        due("where(0, 3, 1)", 2, () -> x.where(0, 3, 1));
        due("where(0, 60, 1)", 0, () -> x.where(0, 60, 1));
        due("where(2, 61, 0)", NO_SUCH, () -> x.where(2, 61, 0));
        due("where(0, 61, 2)", NO_SUCH, () -> x.where(0, 61, 2));
        due("where(0, 61, 0)", ILLEGAL, () -> x.where(0, 61, 0));
        due("where(0, -1, 0)", ILLEGAL, () -> x.where(0, -1, 0));

        says("20");
        due("spent()", 6, () -> x.spent());
        due("spent() without women", 0, () -> new HorizonSeam().spent());
        due("spent(), none", -1, () -> of("stretch 0 1 0;woman 0 0 99;").spent());
        due("spent() behind 60", 60, () -> of("stretch 0 1 0;woman 0 0 60;week 1;").spent());
        due("spent(), none", -1, () -> of("stretch 0 1 0;woman 0 0 61;week 1;").spent());

        says("35");
        due("steady()", 1, () -> new HorizonSeam().steady());
        due("steady()", 5, () -> of("stretch 0 4 0;stretch 0 0 0;stretch 0 0 0;frays 1;").steady());
        due("steady(), none", -1, () -> of("stretch 0 99 0;frays 1;").steady());
        due("strain, too", -1, () -> of("frays 0;pulls (day/2*2=day)*2-1;").steady());

        says("40");
        HorizonSeam w = of("stretch 0 1 0;stretch 0 1 0;woman 0 0 1;woman 0 1 9;woman 0 1 0;week 1;");
        due("meet(1, 2)", 0, () -> w.meet(1, 2));
        due("meet(0, 1)", -1, () -> w.meet(0, 1));
        due("meet(1, 1)", -1, () -> w.meet(1, 1));
        due("meet(3, 1)", NO_SUCH, () -> w.meet(3, 1));
        due("meet(1, -1)", NO_SUCH, () -> w.meet(1, -1));

        says("41");
        due("bare(0)", 4, () -> w.bare(0));
        due("bare(1)", 5, () -> w.bare(1));
        due("bare(60)", 7, () -> w.bare(60));
        due("bare(61)", ILLEGAL, () -> w.bare(61));
        due("bare(-1)", ILLEGAL, () -> w.bare(-1));
    }

    private static void advice() {
        says("21");
        HorizonSeam x = of("stretch 0 5 0;stretch 0 99 0;stretch 0 0 0;frays 3;pulls 0;");
        due("toHold(0, 1)", 0, () -> x.toHold(0, 1));
        due("toHold(0, 2)", 2, () -> x.toHold(0, 2));
        due("toHold(0, 32)", 92, () -> x.toHold(0, 32));
        due("toHold(0, 33)", -1, () -> x.toHold(0, 33));
        due("toHold(2, 1) of an open one", 4, () -> x.toHold(2, 1));
        due("toHold(0, 0)", ILLEGAL, () -> x.toHold(0, 0));
        due("toHold(0, 61)", ILLEGAL, () -> x.toHold(0, 61));
        due("toHold(3, 61)", NO_SUCH, () -> x.toHold(3, 61));
        // The least that holds, though more than it doesn't.
        due("by a rule of its own", 3, () -> of("stretch 0 5 0;frays (not seam=8)*20;pulls 0;").toHold(0, 9));
        // Open now, but mended on the first day: behind no day is it open.
        due("open now", 0, () -> of("stretch 0 0 0;woman 0 0 9;week 1;" + STILL).toHold(0, 9));

        says("22");
        String ring = "stretch 0 2 0;stretch 0 9 0;stretch 0 2 0;stretch 0 2 0;woman 9 1 9;week 2;frays 1;pulls 0;";
        HorizonSeam y = of(ring);
        // Behind 2 days 0, 2 and 3 are open, but for the one that she mends on the Thursday.
        due("toSend(0, 2, 0)", 0, () -> y.toSend(0, 2, 0));
        due("toSend(0, 2, 1)", 2, () -> y.toSend(0, 2, 1));
        // Behind 4 she has mended two of them, if she begins at 2 (then 3) or at 3 (then 0).
        due("toSend(0, 4, 0)", 2, () -> y.toSend(0, 4, 0));
        due("toSend(0, 4, 1)", 1, () -> y.toSend(0, 4, 1));
        due("she is where she was", 1, () -> y.woman(0, 1));
        due("toSend(1, 0, 0)", NO_SUCH, () -> y.toSend(1, 0, 0));
        due("toSend(0, 0, 2)", NO_SUCH, () -> y.toSend(0, 0, 2));
        due("toSend(0, 0, 0)", ILLEGAL, () -> y.toSend(0, 0, 0));
        due("toSend(0, 61, 0)", ILLEGAL, () -> y.toSend(0, 61, 0));

        says("23");
        HorizonSeam z = of("stretch 18 50 0;stretch 9 50 0;stretch 0 50 2;pulls 0;");
        due("bestStitch(0, 1)", 2, () -> z.bestStitch(0, 1));
        due("bestStitch(1, 1)", 1, () -> z.bestStitch(1, 1));
        due("bestStitch(2, 20)", 0, () -> z.bestStitch(2, 20));
        // Behind 25 days 0 is open, and 2 has strain by it.
        due("bestStitch(2, 60)", 2, () -> z.bestStitch(2, 60));
        due("bestStitch(0, 0)", ILLEGAL, () -> z.bestStitch(0, 0));
        due("bestStitch(0, 61)", ILLEGAL, () -> z.bestStitch(0, 61));
        due("bestStitch(3, 0)", NO_SUCH, () -> z.bestStitch(3, 0));

        says("24");
        HorizonSeam w = of(times("stretch 0 9 0;", 8) + "woman 0 0 1;woman 0 4 1;woman 0 4 1;woman 0 7 1;");
        due("sent(0, -1)", 0, () -> w.sent(0, -1));
        due("sent(1 and 5)", 2, () -> w.sent(34, -1));
        due("sent to 1", 0, () -> w.sent(34, 1));
        due("sent to 5, of like ones the first", 1, () -> w.sent(34, 5));
        due("sent to 0 and 1", 2, () -> w.sent(3, -1));
        // 0 -> 0 and 7 -> 1 (2 steps), or 7 -> 0 and 0 -> 1 (2 steps): the first row by stretches is woman 0 to 0.
        due("who goes to 0", 0, () -> w.sent(3, 0));
        due("who goes to 1", 3, () -> w.sent(3, 1));
        due("all four", 3, () -> w.sent(1 | 8 | 32 | 64, -1));
        due("five of them", -2, () -> w.sent(31, -1));
        due("five of them, one", -2, () -> w.sent(31, 4));
        due("five of them, none of these", NO_SUCH, () -> w.sent(31, 5));
        due("seven of them", ILLEGAL, () -> w.sent(127, -1));
        due("no bits of stretches", ILLEGAL, () -> w.sent(256, 3));
        due("no bits of stretches", ILLEGAL, () -> w.sent(-1, -1));
        due("none of these", NO_SUCH, () -> w.sent(3, 2));
        due("no such one", NO_SUCH, () -> w.sent(3, -2));
        due("no such one", NO_SUCH, () -> w.sent(3, 32));
        due("none of none", NO_SUCH, () -> w.sent(0, 0));

        says("36");
        due("nearest(6)", 3, () -> w.nearest(6));
        due("nearest(2) of like ones", 0, () -> w.nearest(2));
        due("nearest(3)", 1, () -> w.nearest(3));
        due("nearest() without women", -1, () -> new HorizonSeam().nearest(0));
        due("nearest(8)", NO_SUCH, () -> w.nearest(8));

        says("37");
        due("far(0, 7)", 1, () -> w.far(0, 7));
        due("far(1, 5)", 4, () -> w.far(1, 5));
        due("far(6, 1)", 3, () -> w.far(6, 1));
        due("far(3, 3)", 0, () -> w.far(3, 3));
        due("far(8, 0)", NO_SUCH, () -> w.far(8, 0));
        due("far(0, -1)", NO_SUCH, () -> w.far(0, -1));

        says("39");
        // Torn open, 1 gives 45 to each beside: 5 a day for 2, 8 of seam, opens; 0 has 90.
        HorizonSeam v = of("stretch 0 90 0;stretch 90 9 0;stretch 0 8 0;stretch 0 0 0;pulls 0;frays strain/9*(stitch=0);");
        v.stitch(1, 1);
        due("worst(9)", 1, () -> v.worst(9));
        due("worst(50)", 1, () -> v.worst(50));
        due("worst(8)", 2, () -> v.worst(8));
        due("worst(1), of like ones", 0, () -> v.worst(1));
        due("worst(0)", ILLEGAL, () -> v.worst(0));
        due("worst(51)", ILLEGAL, () -> v.worst(51));
        due("worst of none", -1, () -> of(times("stretch 0 0 0;", 3)).worst(1));
        due("not of open ones", 1, () -> of("stretch 0 0 0;").worst(1));
    }

    private static void rows() {
        says("25");
        HorizonSeam x = of("stretch 5 9 0;stretch 9 0 0;stretch 1 9 0;stretch 9 9 0;stretch 5 0 0;stretch 7 9 0;");
        due("closed(0)", 2, () -> x.closed(0));
        due("closed(1) of like ones", 2, () -> x.closed(1));
        x.stitch(0, 1);
        x.tear(2, 50);
        due("closed(1) round the end", 5, () -> x.closed(1));
        due("closed(0) of all", 3, () -> new HorizonSeam().closed(0));
        due("closed(1) of all", 0, () -> new HorizonSeam().closed(1));
        due("closed(0) of none", 0, () -> of(times("stretch 0 0 0;", 3)).closed(0));
        due("closed(1) of none", -1, () -> of(times("stretch 0 0 0;", 3)).closed(1));
        due("closed(2)", NO_SUCH, () -> x.closed(2));
        due("closed(-1)", NO_SUCH, () -> x.closed(-1));

        says("26");
        HorizonSeam y = of("stretch 5 9 0;stretch 9 0 0;stretch 1 9 0;stretch 9 9 0;stretch 2 0 0;stretch 9 9 0;");
        due("tight(1, 0)", 9, () -> y.tight(1, 0));
        due("tight(1, 1) of like ones", 1, () -> y.tight(1, 1));
        due("tight(2, 0)", 14, () -> y.tight(2, 0));
        due("tight(2, 1) of like ones", 0, () -> y.tight(2, 1));
        due("tight(3, 0) round the end", 23, () -> y.tight(3, 0));
        due("tight(3, 1) round the end", 5, () -> y.tight(3, 1));
        due("tight(6, 0)", 35, () -> y.tight(6, 0));
        due("tight(6, 1)", 0, () -> y.tight(6, 1));
        due("tight(7, 0)", -1, () -> y.tight(7, 0));
        due("tight(12, 1)", -1, () -> y.tight(12, 1));
        due("tight(13, 0)", ILLEGAL, () -> y.tight(13, 0));
        due("tight(0, 0)", ILLEGAL, () -> y.tight(0, 0));
        due("tight(13, 2)", NO_SUCH, () -> y.tight(13, 2));

        says("38");
        due("gaps()", 2, () -> y.gaps());
        due("gaps() of all", 1, () -> of(times("stretch 0 0 0;", 3)).gaps());
        due("gaps() of none", 0, () -> new HorizonSeam().gaps());
        due("gaps() round the end", 1, () -> of("stretch 0 0 0;stretch 0 9 0;stretch 0 9 0;stretch 0 0 0;").gaps());

        says("42");
        due("load(9)", 3, () -> y.load(9));
        due("load(5)", 2, () -> y.load(5));
        due("load(0)", 1, () -> y.load(0));
        due("load(10)", 0, () -> y.load(10));
        due("load(99)", 0, () -> y.load(99));
        due("load(100)", ILLEGAL, () -> y.load(100));
        due("load(-1)", ILLEGAL, () -> y.load(-1));
    }

    private static void knots() {
        says("27");
        HorizonSeam x = of("knots 1 11 111 1111 0 00;");
        due("readings(1, 0)", 1, () -> x.readings(1, 0));
        due("readings(1111, 0)", 8, () -> x.readings(1111, 0));
        due("readings(1111, 1)", 1, () -> x.readings(1111, 1));
        due("readings(111111111, 0)", 208, () -> x.readings(111111111, 0));
        due("readings(111111111, 1)", 3, () -> x.readings(111111111, 1));
        due("readings(0, 0)", 1, () -> x.readings(0, 0));
        due("readings(100, 0)", 2, () -> x.readings(100, 0));
        due("readings(100, 1)", 2, () -> x.readings(100, 1));
        due("readings(12, 0)", 0, () -> x.readings(12, 0));
        due("readings(12, 1)", -1, () -> x.readings(12, 1));
        due("readings(999999999, 1)", -1, () -> x.readings(999999999, 1));
        due("a word as it is written", 0, () -> of("knots 01;").readings(1, 0));
        due("a word as it is written", 1, () -> of("knots 01 2;").readings(201, 0));
        due("without words", 0, () -> new HorizonSeam().readings(0, 0));
        due("readings(1000000000, 0)", ILLEGAL, () -> x.readings(1000000000, 0));
        due("readings(-1, 0)", ILLEGAL, () -> x.readings(-1, 0));
        due("readings(-1, 2)", NO_SUCH, () -> x.readings(-1, 2));
    }

    private static void sights() {
        says("28");
        HorizonSeam x = new HorizonSeam();
        due("see(3, 99, 0)", NO_SUCH, () -> x.see(3, 99, 0));
        due("see(0, 21, 0)", -1, () -> x.see(0, 21, 0));
        due("see(0, -1, 0)", -1, () -> x.see(0, -1, 0));
        due("see(0, 0, 100)", -1, () -> x.see(0, 0, 100));
        due("see(0, 0, -1)", -1, () -> x.see(0, 0, -1));
        for (int k = 1; k <= 8; k++) {
            int many = k;
            due("see()", many, () -> x.see(0, 20, 50));
        }
        due("the 9th", -1, () -> x.see(0, 0, 50));
        due("status", 5, () -> x.count(14));
        due("acts aren't refused by it", 0, () -> x.count(13));

        says("29");
        x.forget();
        due("forgotten", 0, () -> x.count(10));
        due("see() anew", 1, () -> x.see(2, 3, 43));

        says("30");
        due("torn(0)", 1, () -> x.torn(0));
        due("torn(1)", 207, () -> x.torn(1));
        due("torn(2)", 0, () -> x.torn(2));
        x.see(1, 0, 49);
        due("torn(0) by both", 0, () -> x.torn(0));
        due("torn(1) by both", -1, () -> x.torn(1));
        x.forget();
        due("torn(2) without", 1, () -> x.torn(2));
        due("torn(0) without", 150, () -> x.torn(0));
        due("torn(1) without", 1, () -> x.torn(1));
        due("torn(3)", NO_SUCH, () -> x.torn(3));
        due("torn(-1)", NO_SUCH, () -> x.torn(-1));
        // 0 opens by a tear of 4 or more: its strain goes over, and 1 frays by 2 on the next day.
        HorizonSeam y = of("stretch 36 4 0;stretch 0 9 0;stretch 0 60 0;pulls 0;frays strain/9*(not stitch);");
        y.stitch(0, 1);
        y.see(1, 1, 7);
        due("torn(0), and 1 by 2", 48, () -> y.torn(0));
        due("torn(1)", 4, () -> y.torn(1));
        due("torn(2)", 0, () -> y.torn(2));
        y.see(2, 1, 58);
        due("torn(0)", 47, () -> y.torn(0));
        y.see(0, 5, 0);
        due("torn(0)", 47, () -> y.torn(0));
        y.see(0, 0, 1);
        due("torn(0)", 0, () -> y.torn(0));
        tearsOfOpenOnes();

        says("31");
        HorizonSeam z = new HorizonSeam();
        due("look(0)", 0, () -> z.look(0));
        due("look(1)", 51, () -> z.look(1));
        z.see(0, 7, 50);
        due("look(0) of those that are left", 1, () -> z.look(0));
        due("look(1) of those that are left", 51, () -> z.look(1));
        z.see(2, 20, 49);
        due("look(0) of one, of like ones", 0, () -> z.look(0));
        due("look(1) of one", 1, () -> z.look(1));
        z.see(1, 0, 49);
        due("look(0) without any", -1, () -> z.look(0));
        due("look(1) without any", 0, () -> z.look(1));
        due("look(2)", NO_SUCH, () -> z.look(2));
        due("look(-1)", NO_SUCH, () -> z.look(-1));
        HorizonSeam v = of("stretch 0 99 0;stretch 0 60 0;stretch 0 40 0;" + STILL);
        due("look(1) above 63", 51, () -> v.look(1));
        HorizonSeam u = of("stretch 0 99 0;frays (seam<64)*20;pulls 0;");
        due("look(1): 0, 64 to 99", 37, () -> u.look(1));
        v.see(1, 0, 60);
        v.see(2, 0, 40);
        due("look(0)", 0, () -> v.look(0));
        due("look(1)", 50, () -> v.look(1));
    }

    /** A ship can't tear what is open, so it is never one of those that may have been torn. */
    private static void tearsOfOpenOnes() {
        HorizonSeam x = of("stretch 0 0 0;stretch 0 60 0;stretch 0 40 0;" + STILL);
        due("torn(0), 0 is open", 100, () -> x.torn(0));
        due("torn(1), 0 is open", 101, () -> x.torn(1));
        due("torn(2), 0 is open", 1, () -> x.torn(2));
        x.see(1, 0, 60);
        due("torn(0), 1 isn't torn", 50, () -> x.torn(0));
        due("torn(1), 1 isn't torn", 201, () -> x.torn(1));
        due("look(0), 1 isn't torn", 2, () -> x.look(0));
        due("look(1): 0 to 39", 40, () -> x.look(1));
        x.see(2, 0, 40);
        due("torn(0), nothing is torn", 0, () -> x.torn(0));
        due("torn(1), nothing is torn", -1, () -> x.torn(1));
        due("torn(2), nothing is torn", 1, () -> x.torn(2));
        due("look(0), nothing is torn", -1, () -> x.look(0));
        due("look(1), nothing is torn", 0, () -> x.look(1));
        HorizonSeam all = of("stretch 0 0 0;stretch 0 0 0;stretch 0 0 0;woman 3 1 5;week 1;");
        due("torn(0), all are open", 0, () -> all.torn(0));
        due("torn(1), all are open", -1, () -> all.torn(1));
        due("torn(2), all are open", 1, () -> all.torn(2));
        due("look(0), all are open", -1, () -> all.look(0));
        due("look(1), all are open", 0, () -> all.look(1));
        all.mend(0);
        due("torn(0), 1 is mended", 50, () -> all.torn(0));
        due("torn(1), 1 is mended", 101, () -> all.torn(1));
        all.tear(1, 9);
        due("torn(0), 1 is torn", 0, () -> all.torn(0));
        all.undo();
        due("torn(0), that is undone", 50, () -> all.torn(0));
    }

    private static void chances() {
        says("32");
        // A gale gives 15 strain, that takes 1 of 2 each day from then on.
        HorizonSeam x = of("stretch 0 2 0;stretch 0 99 0;stretch 0 0 0;pulls 0;frays strain/9;");
        due("gales(1, 3): 1 left", 0, () -> x.gales(1, 3));
        due("gales(2, 3): the first day's is enough", 30, () -> x.gales(2, 3));
        due("gales(2, 0)", 0, () -> x.gales(2, 0));
        due("gales(2, 10)", 100, () -> x.gales(2, 10));
        due("gales(3, 3): one of the first two", 1000 - 7 * 7 * 10, () -> x.gales(3, 3));
        due("gales(0, 3)", ILLEGAL, () -> x.gales(0, 3));
        due("gales(6, 3)", ILLEGAL, () -> x.gales(6, 3));
        due("gales(1, -1)", ILLEGAL, () -> x.gales(1, -1));
        due("gales(1, 11)", ILLEGAL, () -> x.gales(1, 11));
        due("not by what is open now", 0, () -> of("stretch 0 0 0;").gales(5, 10));
        due("gales(5, 10)", 100000, () -> of("stretch 0 9 0;").gales(5, 10));
        due("nothing changes", 0, () -> x.stretch(0, 0));
        HorizonSeam beside = of("stretch 0 0 0;stretch 0 5 0;stretch 0 99 0;pulls 0;frays (15<beside)*20;");
        due("what is open has no strain by gales", 0, () -> beside.gales(1, 10));
        HorizonSeam mended = of("stretch 0 9 0;woman 9 0 9;week 2;pulls 0;frays (women=1)*(day=0)*strain;");
        due("it opens by a gale", 5, () -> mended.gales(1, 5));
        due("and is mended: it isn't open behind both days", 0, () -> mended.gales(2, 5));

        says("33");
        // Each mends by 21: her own stretch gains 2, the other one's takes the same.
        HorizonSeam y = of("stretch 0 10 0;stretch 0 10 0;stretch 0 10 0;woman 9 0 9;woman 9 1 9;" + STILL);
        due("game(0, 1, 0)", 1, () -> y.game(0, 1, 0));
        due("game(0, 1, 1)", 0, () -> y.game(0, 1, 1));
        // The first one has no thread: 0 if she stays, less if she goes; the other one is the same.
        HorizonSeam z = of("stretch 0 99 0;stretch 0 99 0;stretch 0 10 0;woman 9 0 0;woman 9 1 0;" + STILL);
        due("game(0, 1, 0)", 1, () -> z.game(0, 1, 0));
        // Going on pays for 0: her stretch frays by the women at it, the other one's doesn't.
        HorizonSeam v = of("stretch 0 90 0;stretch 5 90 0;stretch 0 90 0;woman 0 0 0;woman 0 1 0;pulls 0;"
                + "frays 9*women*(strain=0);");
        due("game(0, 1, 0)", 1, () -> v.game(0, 1, 0));
        due("game(0, 1, 1)", 10, () -> v.game(0, 1, 1));
        due("game(1, 0, 1) is by whom it is asked", 1, () -> v.game(1, 0, 1));
        // 20 less 5 if she stays, or 20 and a step: 1 either way.
        HorizonSeam u = of("stretch 0 20 0;stretch 5 90 0;stretch 0 90 0;woman 0 0 0;woman 0 1 0;pulls 0;"
                + "frays women*(strain=0)*(day=0)*5;");
        due("couples that rest, of like gain", 2, () -> u.game(0, 1, 0));
        due("the first of them", 0, () -> u.game(0, 1, 1));
        // The same for the other one, and both from the other side.
        HorizonSeam r = of("stretch 5 90 0;stretch 0 20 0;stretch 0 90 0;woman 0 0 0;woman 0 1 0;pulls 0;"
                + "frays women*(strain=0)*(day=0)*5;");
        due("couples that rest, of like gain", 2, () -> r.game(0, 1, 0));
        due("the first of them", 0, () -> r.game(0, 1, 1));
        due("couples that rest, of like gain", 2, () -> r.game(1, 0, 0));
        // What would be on the sixth day counts for nothing.
        HorizonSeam q = of("stretch 0 50 0;stretch 5 90 0;stretch 0 90 0;woman 0 0 0;woman 0 1 0;pulls 0;"
                + "frays (strain=0)*(women=1)*(day=5)*20;");
        due("behind 5 days", 0, () -> q.game(0, 1, 1));
        HorizonSeam o = of("stretch 0 59 0;stretch 5 90 0;stretch 0 90 0;woman 0 0 0;woman 0 1 0;pulls 0;"
                + "frays (strain=0)*(women=1)*(day=4)*20;");
        due("on the fifth day it pays to be away", 10, () -> o.game(0, 1, 1));
        due("game(0, 0, 2)", NO_SUCH, () -> y.game(0, 0, 2));
        due("game(0, 2, 0)", NO_SUCH, () -> y.game(0, 2, 0));
        due("game(2, 2, 0)", NO_SUCH, () -> y.game(2, 2, 0));
        due("game(1, 1, 0)", ILLEGAL, () -> y.game(1, 1, 0));
        due("nothing changes", 0, () -> y.woman(0, 1));

        says("34");
        HorizonSeam w = of(times("stretch 0 50 0;", 3) + "woman 0 0 7;" + STILL);
        due("years(1, 0, 0)", 0, () -> w.years(1, 0, 0));
        due("years(1, 0, 1)", 150, () -> w.years(1, 0, 1));
        due("years(1, 0, 2)", 7, () -> w.years(1, 0, 2));
        for (int seed = -40; seed < 40; seed++) {
            int s = seed;
            due("years(" + s + ", 1, 1)", firstDaySeam(s), () -> w.years(s, 1, 1));
            due("years(" + s + ", 1, 2)", firstDayThread(s), () -> w.years(s, 1, 2));
        }
        due("years(1, 61, 3)", NO_SUCH, () -> w.years(1, 61, 3));
        due("years(1, 61, 0)", ILLEGAL, () -> w.years(1, 61, 0));
        due("years(1, -1, 0)", ILLEGAL, () -> w.years(1, -1, 0));
        due("nothing changes", 150, () -> w.count(6));
        shipsThatMeetWhatIsOpen();
    }

    /** Such a ship changes nothing, though how much it would tear is drawn: the next ship is by what is drawn behind. */
    private static void shipsThatMeetWhatIsOpen() {
        HorizonSeam x = of("stretch 98 0 0;stretch 0 99 0;stretch 0 99 0;pulls 0;frays strain/9;");
        int met = 0;
        for (int seed = 0; seed < 5000; seed++) {
            int s = seed;
            boolean open = drawn(s, 1, 6) == 0 && drawn(s, 2, 3) == 0;
            if (open && drawn(s, 4, 6) == 0 && drawn(s, 5, 3) > 0) {
                met++;
                due("years(" + s + ", 1, 1)", 198, () -> x.years(s, 1, 1));
                due("years(" + s + ", 2, 1)", 197 - drawn(s, 6, 20), () -> x.years(s, 2, 1));
            }
        }
        int meetings = met;
        due("there are such seeds", 1, () -> meetings > 0 ? 1 : 0);
    }

    /** What is drawn of n by the so manieth draw. */
    private static int drawn(int seed, int which, int n) {
        int becomes = seed;
        for (int k = 0; k < which; k++) {
            becomes = becomes * 1103515245 + 12345;
        }
        return (becomes >> 16 & 0x7FFF) % n;
    }

    private static int firstDaySeam(int seed) {
        int a = seed * 1103515245 + 12345;
        int c = (a * 1103515245 + 12345) * 1103515245 + 12345;
        boolean torn = (a >> 16 & 0x7FFF) % 6 == 0;
        return torn ? 150 - ((c >> 16 & 0x7FFF) % 20 + 1) : 150;
    }

    private static int firstDayThread(int seed) {
        int a = seed * 1103515245 + 12345;
        return (a >> 16 & 0x7FFF) % 6 == 2 ? 12 : 7;
    }

    private static void images() {
        says("43");
        HorizonSeam x = of(FOUR);
        due("restore() without", 0, () -> x.restore() ? 1 : 0);
        x.days(1);
        x.see(3, 1, 1);
        x.image();
        x.days(3);
        x.go(0, 3);
        x.stitch(0, 2);
        x.thread(1, 9);
        x.see(3, 1, 2);
        x.mend(1);
        x.mend(0);
        x.days(99);

        says("44");
        for (int times = 0; times < 2; times++) {
            due("restore()", 1, () -> x.restore() ? 1 : 0);
            due("the day", 1, () -> x.count(4));
            due("strain", 32, () -> x.stretch(3, 0));
            due("seam", 19, () -> x.stretch(3, 1));
            due("stitch", 0, () -> x.stretch(0, 2));
            due("where", 0, () -> x.woman(0, 1));
            due("thread", 1, () -> x.woman(1, 2));
            due("acts", 1, () -> x.count(9));
            due("seen", 1, () -> x.count(10));
            due("status stays", 1, () -> x.count(13));
            due("undo()", 0, () -> x.undo());
            due("as it was ahead of that", 0, () -> x.count(4));
            due("as it was ahead of that", 4, () -> x.stretch(2, 1));
            x.forget();
            x.days(5);
        }
        x.image();
        x.days(2);
        due("another image", 1, () -> x.restore() ? 1 : 0);
        due("in place of the first one", 5, () -> x.count(4));
    }
}
