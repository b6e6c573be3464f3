/** "==== 2.", a day and acts: each sentence of it that names a bound, with what lies on it, within it and beyond it. */
public final class DayBoundsTest extends Checks {
    public static void main(String[] args) {
        open();
        pulls();
        pullsWithout();
        allAtOnce();
        frays();
        fraysWithout();
        opening();
        openingInARow();
        thursdays();
        mending();
        actsThatAreKept();
        eachActIsUndone();
        boundsOfActs();
        end("the bounds of days and acts hold");
    }

    private static void lies(HorizonSeam x, int i, int strain, int seam) {
        due("strain of " + i, strain, () -> x.stretch(i, 0));
        due("seam of " + i, seam, () -> x.stretch(i, 1));
    }

    private static HorizonSeam behind(int days, String text) {
        HorizonSeam x = of(text);
        x.days(days);
        return x;
    }

    private static void open() {
        says("A STRETCH is OPEN, if its SEAM is 0");
        due("0 and 1", 1, () -> of("stretch 0 0 0;stretch 0 1 0;stretch 0 99 0;").count(5));
        due("all of 12", 4095, () -> of(times("stretch 9 0 0;", 12)).count(5));
        due("none of 12", 0, () -> of(times("stretch 9 1 0;", 12)).count(5));
    }

    private static void pulls() {
        says("what PULLS gives, kept to -9 to 9");
        int[] gives = {0, 1, 8, 9, 10, 11, 99, 9999};
        for (int much : gives) {
            int kept = Math.min(9, much);
            HorizonSeam more = of("stretch 50 9 0;frays 0;pulls " + much + ";");
            due("of " + much, kept, () -> more.stretch(0, 5));
            due("a day of " + much, 50 + kept, () -> more.then(0, 1, 0));
            HorizonSeam less = of("stretch 50 9 0;frays 0;pulls 0-" + much + ";");
            due("of -" + much, -kept, () -> less.stretch(0, 5));
            due("a day of -" + much, 50 - kept, () -> less.then(0, 1, 0));
        }
        due("of the greatest int", 9, () -> of("pulls 1024*1024*2048-1;").stretch(0, 5));
        due("of the least int", -9, () -> of("pulls 1024*1024*2048;").stretch(0, 5));

        says("STRAIN of each STRETCH that isn't OPEN is more by it, within 0 to 99");
        for (int strain = 88; strain <= 99; strain++) {
            int begins = strain;
            due("9 more than " + strain, Math.min(99, begins + 9),
                    () -> of("stretch " + begins + " 9 0;frays 0;pulls 9;").then(0, 1, 0));
        }
        for (int strain = 0; strain <= 11; strain++) {
            int begins = strain;
            due("9 less than " + strain, Math.max(0, begins - 9),
                    () -> of("stretch " + begins + " 9 0;frays 0;pulls 0-9;").then(0, 1, 0));
        }
        due("an open one's stays", 50, () -> of("stretch 50 0 0;frays 0;pulls 9;").then(0, 1, 0));
        due("and so it does for long", 50, () -> of("stretch 50 0 0;frays 0;pulls 0-9;").then(0, 60, 0));
        due("one of 1 has it", 59, () -> of("stretch 50 1 0;frays 0;pulls 9;").then(0, 1, 0));
    }

    private static void pullsWithout() {
        says("without it 'beside' less STRAIN twice, by 9, cut down to 0");
        int[][] cases = {{0, 8, 0, 0}, {0, 4, 5, 1}, {0, 9, 8, 1}, {0, 9, 9, 2}, {4, 0, 0, 0}, {5, 1, 0, -1}, {9, 1, 0, -1},
            {9, 0, 0, -2}, {10, 10, 10, 0}, {10, 18, 10, 0}, {10, 19, 10, 1}, {10, 2, 10, 0}, {10, 1, 10, -1}};
        for (int[] c : cases) {
            HorizonSeam x = of("stretch " + c[0] + " 9 0;stretch " + c[1] + " 9 0;stretch " + c[2] + " 0 0;");
            due(c[0] + " between " + c[1] + " and " + c[2], c[3], () -> x.stretch(0, 5));
            due("a day of it", c[0] + c[3], () -> x.then(0, 1, 0));
        }

        says("without it, kept to -9 to 9, too");
        int[][] kept = {{0, 81, 0, 9}, {0, 80, 0, 8}, {0, 90, 0, 9}, {0, 99, 99, 9}, {45, 9, 0, -9}, {45, 10, 0, -8},
            {45, 0, 0, -9}, {99, 0, 0, -9}, {50, 0, 0, -9}};
        for (int[] c : kept) {
            HorizonSeam x = of("stretch " + c[0] + " 99 0;stretch " + c[1] + " 99 0;stretch " + c[2] + " 99 0;");
            due(c[0] + " between " + c[1] + " and " + c[2], c[3], () -> x.stretch(0, 5));
            due("a day of it", c[0] + c[3], () -> x.then(0, 1, 0));
        }
    }

    private static void allAtOnce() {
        says("first, all at once, as they are when it begins");
        HorizonSeam x = behind(1, "stretch 10 50 0;stretch 20 50 0;stretch 30 50 0;pulls beside/10;frays 0;");
        lies(x, 0, 15, 50);
        lies(x, 1, 24, 50);
        lies(x, 2, 33, 50);
        // FRAYS, though, is by STRAIN as PULLS has made it.
        lies(behind(1, "stretch 10 50 0;pulls 5;frays strain;"), 0, 15, 35);
        // Both rules see the DAY as it is before it is one more.
        lies(behind(3, "stretch 0 50 0;pulls day;frays day;"), 0, 0 + 1 + 2, 50 - 1 - 2);
    }

    private static void frays() {
        says("what FRAYS gives, kept to 0 to 20");
        for (int much : new int[] {0, 1, 19, 20, 21, 22, 9999}) {
            int kept = Math.min(20, much);
            HorizonSeam x = of("stretch 0 50 0;pulls 0;frays " + much + ";");
            due("of " + much, kept, () -> x.stretch(0, 4));
            due("a day of " + much, 50 - kept, () -> x.then(0, 1, 1));
        }
        for (String less : new String[] {"0-1", "0-20", "0-9999", "1024*1024*2048"}) {
            HorizonSeam x = of("stretch 0 50 0;pulls 0;frays " + less + ";");
            due("of " + less, 0, () -> x.stretch(0, 4));
            due("a day of " + less, 50, () -> x.then(0, 1, 1));
        }
        due("of the greatest int", 20, () -> of("frays 1024*1024*2048-1;").stretch(0, 4));
        for (int stitch = 0; stitch <= 2; stitch++) {
            int kind = stitch;
            due("by a rule stitches count for nothing", 18, () -> of("stretch 9 50 " + kind + ";frays 18;").stretch(0, 4));
        }

        says("SEAM is less, not below 0");
        for (int seam = 1; seam <= 22; seam++) {
            int begins = seam;
            HorizonSeam x = of("stretch 0 " + begins + " 0;pulls 0;frays 20;");
            due("20 less than " + seam, Math.max(0, begins - 20), () -> x.then(0, 1, 1));
            due("open then", bit(begins <= 20), () -> x.later(1, 0) & 1);
        }
        due("an open one's stays 0", 0, () -> of("stretch 0 0 0;frays 20;").then(0, 1, 1));
    }

    private static void fraysWithout() {
        says("without it STRAIN by 9; of a back one half of that, cut down; of a herringbone one a third");
        int[][] cases = {{0, 0, 0, 0}, {8, 0, 0, 0}, {9, 1, 0, 0}, {17, 1, 0, 0}, {18, 2, 1, 0}, {26, 2, 1, 0}, {27, 3, 1, 1},
            {35, 3, 1, 1}, {36, 4, 2, 1}, {45, 5, 2, 1}, {53, 5, 2, 1}, {54, 6, 3, 2}, {80, 8, 4, 2}, {81, 9, 4, 3},
            {98, 10, 5, 3}, {99, 11, 5, 3}};
        for (int[] c : cases) {
            for (int stitch = 0; stitch <= 2; stitch++) {
                int want = c[1 + stitch];
                HorizonSeam x = of("stretch " + c[0] + " 50 " + stitch + ";pulls 0;");
                due("strain " + c[0] + ", stitch " + stitch, want, () -> x.stretch(0, 4));
                due("a day of it", 50 - want, () -> x.then(0, 1, 1));
            }
        }
    }

    private static void opening() {
        says("each one beside it that isn't OPEN has half of its STRAIN more (cut down; 99 at most), its own is 0");
        for (int strain : new int[] {0, 1, 2, 3, 50, 51, 98, 99}) {
            int half = strain / 2;
            HorizonSeam x = behind(1, "stretch 0 50 0;stretch 10 50 0;stretch " + strain + " 5 0;stretch 20 50 0;"
                    + "pulls 0;frays (seam<6)*5;");
            lies(x, 0, 0, 50);
            lies(x, 1, 10 + half, 50);
            lies(x, 2, 0, 0);
            lies(x, 3, 20 + half, 50);
        }
        HorizonSeam full = behind(1, "stretch 50 50 0;stretch 99 1 0;stretch 49 50 0;pulls 0;frays seam<2;");
        lies(full, 0, 99, 50);
        lies(full, 1, 0, 0);
        lies(full, 2, 98, 50);
        HorizonSeam over = behind(1, "stretch 51 50 0;stretch 99 1 0;stretch 99 50 0;pulls 0;frays seam<2;");
        lies(over, 0, 99, 50);
        lies(over, 2, 99, 50);
        HorizonSeam beside = behind(1, "stretch 7 0 0;stretch 80 1 0;stretch 9 0 0;pulls 0;frays 1;");
        lies(beside, 0, 7, 0);
        lies(beside, 1, 0, 0);
        lies(beside, 2, 9, 0);

        says("it OPENS: beside each other are the last one and 0, too");
        HorizonSeam last = behind(1, "stretch 0 50 0;stretch 0 50 0;stretch 0 50 0;stretch 9 1 0;pulls 0;frays seam<2;");
        lies(last, 0, 4, 50);
        lies(last, 1, 0, 50);
        lies(last, 2, 4, 50);
        HorizonSeam zero = behind(1, "stretch 9 1 0;stretch 0 50 0;stretch 0 50 0;stretch 0 50 0;pulls 0;frays seam<2;");
        lies(zero, 1, 4, 50);
        lies(zero, 2, 0, 50);
        lies(zero, 3, 4, 50);

        says("of those that aren't OPEN: what is OPEN when the DAY begins doesn't open again");
        HorizonSeam old = behind(3, "stretch 0 50 0;stretch 80 0 0;stretch 0 50 0;pulls 0;frays 0;");
        lies(old, 0, 0, 50);
        lies(old, 1, 80, 0);
        lies(old, 2, 0, 50);
        HorizonSeam holds = behind(1, "stretch 0 50 0;stretch 80 2 0;stretch 0 50 0;pulls 0;frays seam<3;");
        lies(holds, 0, 0, 50);
        lies(holds, 1, 80, 1);
    }

    private static void openingInARow() {
        says("Then, STRETCH by STRETCH");
        // 0 opens: 5 more for 1 and 2. Then 1, by 25: 12 more for 2 alone.
        HorizonSeam x = behind(1, "stretch 10 1 0;stretch 20 1 0;stretch 30 50 0;pulls 0;frays seam<2;");
        lies(x, 0, 0, 0);
        lies(x, 1, 0, 0);
        lies(x, 2, 47, 50);
        // 2 opens last: 0 and 1 have frayed by then.
        HorizonSeam y = behind(1, "stretch 0 9 0;stretch 0 9 0;stretch 80 1 0;pulls 0;");
        lies(y, 0, 40, 9);
        lies(y, 1, 40, 9);
        // 0 opens first: 1 and 2 fray by what it gives them on the same day.
        HorizonSeam z = behind(1, "stretch 80 1 0;stretch 0 9 0;stretch 0 9 0;pulls 0;");
        lies(z, 1, 40, 5);
        lies(z, 2, 40, 5);
        // All of them, one by the other: 90 (45 each), then 45 (22 more for 2), then 67.
        HorizonSeam all = behind(1, "stretch 90 1 0;stretch 0 1 0;stretch 0 1 0;pulls 0;");
        lies(all, 0, 0, 0);
        lies(all, 1, 0, 0);
        lies(all, 2, 0, 0);
    }

    private static void thursdays() {
        says("if the DAY's number MOD WEEK is WEEK less 1, it is THURSDAY");
        for (int week = 1; week <= 9; week++) {
            HorizonSeam x = of("stretch 0 9 0;woman 0 0 99;week " + week + ";" + STILL);
            for (int days = 0; days <= 20; days++) {
                int many = days;
                int thursdays = days / week;
                due("thread behind " + days + " days, week " + week, 99 - thursdays, () -> x.where(0, many, 1));
                due("where, behind " + days + " days, week " + week, thursdays % 3, () -> x.where(0, many, 0));
            }
        }
        HorizonSeam unfit = of("stretch 0 9 0;woman 0 0 9;" + STILL);
        unfit.days(6);
        due("7 without: none in 6 days", 9, () -> unfit.woman(0, 2));
        due("the 7th", 8, () -> unfit.where(0, 1, 1));
        due("none in 7 more days but one", 8, () -> unfit.where(0, 7, 1));
        due("the 14th", 7, () -> unfit.where(0, 8, 1));

        says("WOMAN by WOMAN MENDS, if she can, and goes on to the STRETCH after hers");
        HorizonSeam y = behind(1, times("stretch 0 9 0;", 4) + "woman 1 3 0;woman 2 3 1;woman 3 0 1;week 1;" + STILL);
        due("without thread: from the last one to 0", 0, () -> y.woman(0, 1));
        due("from the last one to 0", 0, () -> y.woman(1, 1));
        due("from 0 to 1", 1, () -> y.woman(2, 1));
        lies(y, 3, 0, 9 + 7);
        lies(y, 0, 0, 9 + 9);
        due("no thread below 0", 0, () -> y.woman(0, 2));
        HorizonSeam many = behind(1, "stretch 0 10 0;" + times("woman 9 0 1;", 6) + "week 1;" + STILL);
        lies(many, 0, 0, 99);
        HorizonSeam some = behind(1, "stretch 0 10 0;" + times("woman 1 0 1;", 6) + "week 1;" + STILL);
        lies(some, 0, 0, 40);

        says("The DAY is one more then");
        due("from 0", 0, () -> new HorizonSeam().count(4));
        due("by one", 1, () -> behind(1, "").count(4));
        due("by twenty", 20, () -> behind(20, "").count(4));

        says("Then .. it is THURSDAY: what opens on it is mended behind that");
        HorizonSeam mended = behind(1, "stretch 0 50 0;stretch 40 1 0;stretch 0 50 0;woman 0 1 1;week 1;pulls 0;frays seam<2;");
        lies(mended, 0, 20, 50);
        lies(mended, 1, 0, 3);
        lies(mended, 2, 20, 50);
    }

    private static void mending() {
        says("a WOMAN who has THREAD has 1 less; SEAM of her STRETCH is more by SKILL twice, and 3 (99 at most)");
        for (int skill = 0; skill <= 9; skill++) {
            int more = 2 * skill + 3;
            HorizonSeam x = of("stretch 0 " + (99 - more) + " 0;stretch 0 " + (100 - more) + " 0;stretch 0 " + (98 - more)
                    + " 0;woman " + skill + " 0 9;woman " + skill + " 1 9;woman " + skill + " 2 9;");
            due("99 of skill " + skill, 99, () -> x.mend(0));
            due("99 at most of skill " + skill, 99, () -> x.mend(1));
            due("98 of skill " + skill, 98, () -> x.mend(2));
            due("thread", 8, () -> x.woman(0, 2));
            due("a full one is mended, too", 99, () -> x.mend(0));
            due("thread", 7, () -> x.woman(0, 2));
        }
        HorizonSeam y = of("stretch 30 0 0;stretch 5 9 0;stretch 5 9 0;woman 2 0 1;" + STILL);
        due("an open one", 7, () -> y.mend(0));
        due("isn't open then", 0, () -> y.count(5));
        lies(y, 0, 30, 7);
        lies(y, 1, 5, 9);
        due("thread of 1 is none then", 0, () -> y.woman(0, 2));
        due("and so she can't", NONE, () -> y.mend(0));
    }

    private static void actsThatAreKept() {
        says("ACTS (at most 40 are kept, the latest ones)");
        HorizonSeam x = of("stretch 0 99 0;woman 0 0 1;" + STILL);
        for (int k = 1; k <= 40; k++) {
            int many = k;
            x.tear(0, 1);
            due("kept", many, () -> x.count(9));
        }
        due("the 41st", 58, () -> x.tear(0, 1));
        due("kept", 40, () -> x.count(9));
        due("the 42nd", 57, () -> x.tear(0, 1));
        due("kept", 40, () -> x.count(9));
        for (int left = 39; left >= 0; left--) {
            int still = left;
            due("undo()", still, () -> x.undo());
            due("seam then", 97 - still, () -> x.stretch(0, 1));
        }
        due("the first two aren't undone", NONE, () -> x.undo());
        due("seam", 97, () -> x.stretch(0, 1));
        due("another act", 96, () -> x.tear(0, 1));
        due("is kept", 1, () -> x.count(9));
        due("and undone", 0, () -> x.undo());
        due("seam", 97, () -> x.stretch(0, 1));

        says("ACTS: a call that is refused is none, nor is one that throws");
        HorizonSeam y = of("stretch 0 0 0;woman 0 0 0;" + STILL);
        y.days(0);
        y.mend(0);
        y.go(0, 0);
        y.stitch(0, 0);
        y.thread(0, 0);
        y.tear(0, 1);
        y.undo();
        answerOf(() -> y.mend(1));
        answerOf(() -> y.go(0, 3));
        answerOf(() -> y.tear(3, 1));
        due("kept", 0, () -> y.count(9));
        y.see(0, 0, 0);
        y.forget();
        y.image();
        y.restore();
        y.years(1, 9, 0);
        y.then(0, 9, 0);
        due("nor is anything else", 0, () -> y.count(9));
        y.thread(0, 3);
        for (int k = 0; k < 45; k++) {
            y.thread(0, 51);
        }
        due("none is lost by those that are refused", 1, () -> y.count(9));
        due("undo()", 0, () -> y.undo());
        due("thread", 0, () -> y.woman(0, 2));
    }

    private static String all(HorizonSeam x) {
        StringBuilder all = new StringBuilder("day " + x.count(4));
        for (int i = 0; i < x.count(0); i++) {
            all.append("; ").append(x.stretch(i, 0)).append(' ').append(x.stretch(i, 1)).append(' ').append(x.stretch(i, 2));
        }
        for (int w = 0; w < x.count(1); w++) {
            all.append("; ").append(x.woman(w, 1)).append(' ').append(x.woman(w, 2));
        }
        return all.toString();
    }

    private interface Act {
        int done(HorizonSeam x);
    }

    /** Done, it changes something; undone, all is as it was; so it is done twice. */
    private static void undone(String text, String what, Act act) {
        HorizonSeam x = behind(1, text);
        String was = all(x);
        for (int time = 0; time < 2; time++) {
            int answer = answerOf(() -> act.done(x));
            if (answer < 0 || all(x).equals(was)) {
                complain(what + " answered " + name(answer) + ", then: " + all(x));
            }
            due(what + ": acts", 2, () -> x.count(9));
            due(what + ": undo()", 1, () -> x.undo());
            if (!all(x).equals(was)) {
                complain(what + ", undone: " + all(x) + ", due is " + was);
            }
        }
    }

    private static void eachActIsUndone() {
        says("They are UNDONE");
        String four = "stretch 18 9 0;stretch 0 10 0;stretch 45 4 0;stretch 9 20 1;woman 2 0 3;woman 4 2 1;week 2;";
        undone(four, "days(1)", x -> x.days(1));
        undone(four, "days(20)", x -> x.days(20));
        undone(four, "thread(1, 50)", x -> x.thread(1, 50));
        undone(four, "mend(1)", x -> x.mend(1));
        undone(four, "go(1, 0)", x -> x.go(1, 0));
        undone(four, "stitch(3, 2)", x -> x.stitch(3, 2));
        undone(four, "tear(3, 5)", x -> x.tear(3, 5));
        undone(four, "tear(3, 50)", x -> x.tear(3, 50));

        says("They are UNDONE, the last one first");
        HorizonSeam x = of(four);
        String was = all(x);
        x.days(1);
        x.thread(1, 50);
        x.mend(1);
        x.go(1, 0);
        x.mend(1);
        x.stitch(3, 2);
        x.tear(3, 50);
        x.days(20);
        due("acts", 8, () -> x.count(9));
        due("undo() of days", 7, () -> x.undo());
        due("torn yet", 0, () -> x.stretch(3, 1));
        due("undo() of a tear", 6, () -> x.undo());
        due("isn't torn any more", 19, () -> x.stretch(3, 1));
        due("of another stitch yet", 2, () -> x.stretch(3, 2));
        due("undo() of a stitch", 5, () -> x.undo());
        due("of its first stitch", 1, () -> x.stretch(3, 2));
        due("thread", 49, () -> x.woman(1, 2));
        due("undo() of mending", 4, () -> x.undo());
        due("thread", 50, () -> x.woman(1, 2));
        due("where she is", 0, () -> x.woman(1, 1));
        due("undo() of going", 3, () -> x.undo());
        due("where she is", 2, () -> x.woman(1, 1));
        due("undo() of mending", 2, () -> x.undo());
        due("thread", 51, () -> x.woman(1, 2));
        due("undo() of thread", 1, () -> x.undo());
        due("thread", 1, () -> x.woman(1, 2));
        due("undo() of days", 0, () -> x.undo());
        if (!all(x).equals(was)) {
            complain("all undone: " + all(x) + ", due is " + was);
        }
        HorizonSeam y = of("stretch 40 9 0;stretch 10 9 0;stretch 20 9 0;" + STILL);
        y.tear(0, 9);
        lies(y, 0, 0, 0);
        lies(y, 1, 30, 9);
        lies(y, 2, 40, 9);
        due("undo()", 0, () -> y.undo());
        lies(y, 0, 40, 9);
        lies(y, 1, 10, 9);
        lies(y, 2, 20, 9);

        says("an act that changes nothing is one, too");
        HorizonSeam z = of("stretch 0 99 0;woman 0 0 99;");
        due("thread(0, 1) of 99", 99, () -> z.thread(0, 1));
        due("acts", 1, () -> z.count(9));
        due("undo()", 0, () -> z.undo());
    }

    private static void boundsOfActs() {
        says("DAYS go by (1 to 20)");
        for (int many = -1; many <= 22; many++) {
            int days = many;
            due("days(" + many + ")", many < 1 || many > 20 ? NONE : many, () -> new HorizonSeam().days(days));
        }

        says("a WOMAN gets THREAD (1 to 50; 99 at most)");
        for (int more : new int[] {-1, 0, 1, 2, 49, 50, 51, 52}) {
            due("thread(0, " + more + ")", more < 1 || more > 50 ? NONE : 10 + more,
                    () -> of("stretch 0 9 0;woman 0 0 10;").thread(0, more));
            due("thread(0, " + more + ") of 60", more < 1 || more > 50 ? NONE : Math.min(99, 60 + more),
                    () -> of("stretch 0 9 0;woman 0 0 60;").thread(0, more));
        }
        due("thread(0, 49) of 50", 99, () -> of("stretch 0 9 0;woman 0 0 50;").thread(0, 49));
        due("thread(0, 50) of 50", 99, () -> of("stretch 0 9 0;woman 0 0 50;").thread(0, 50));
        due("thread(0, 48) of 50", 98, () -> of("stretch 0 9 0;woman 0 0 50;").thread(0, 48));

        says("a SHIP TEARS a STRETCH (SEAM 1 to 50 less, not below 0: it OPENS by it as told above, if it is 0 then)");
        for (int much : new int[] {-1, 0, 1, 2, 29, 30, 31, 49, 50, 51, 52}) {
            boolean refused = much < 1 || much > 50;
            HorizonSeam x = of("stretch 41 30 0;stretch 90 9 0;stretch 5 9 0;");
            due("tear(0, " + much + ")", refused ? NONE : Math.max(0, 30 - much), () -> x.tear(0, much));
            boolean opens = !refused && much >= 30;
            lies(x, 0, opens ? 0 : 41, refused ? 30 : Math.max(0, 30 - much));
            lies(x, 1, opens ? 99 : 90, 9);
            lies(x, 2, opens ? 25 : 5, 9);
        }
        due("50 of 99", 49, () -> of("stretch 0 99 0;").tear(0, 50));
        HorizonSeam last = of("stretch 1 9 0;stretch 2 9 0;stretch 3 0 0;stretch 21 9 0;");
        last.tear(3, 9);
        lies(last, 0, 11, 9);
        lies(last, 1, 2, 9);
        lies(last, 2, 3, 0);
        lies(last, 3, 0, 0);

        says("she goes to another STRETCH; a STRETCH gets another STITCH");
        HorizonSeam y = of(times("stretch 0 9 0;", 12) + "woman 0 0 0;");
        due("to the last one", 0, () -> y.go(0, 11));
        due("and to the first", 11, () -> y.go(0, 0));
        due("stitch of the last one", 0, () -> y.stitch(11, 2));
        due("as it was", 2, () -> y.stitch(11, 0));
    }
}
