/** "Promise 1" to "Promise 44": what each call answers at its bounds, when it is refused, what it throws and which ahead. */
public final class CallsBoundsTest extends Checks {
    private static final String FOUR = "stretch 18 5 0;stretch 0 10 0;stretch 45 4 0;stretch 9 20 1;"
            + "woman 2 0 3;woman 4 2 1;week 2;knots 1 12 2 00;";
    private static final int LEAST = Integer.MIN_VALUE;
    private static final int MOST = Integer.MAX_VALUE;

    public static void main(String[] args) {
        aNewObject();
        feed();
        ring();
        ringAnew();
        faultPlace();
        looking();
        days();
        actsOfWomen();
        actsOfStretches();
        undo();
        ahead();
        aheadOfWomen();
        advice();
        rows();
        sights();
        chances();
        others();
        image();
        imageAndActs();
        status();
        end("the bounds of the calls hold");
    }

    /** What is asked of an object; most checks have one of their own, as none is promised to answer more than 512 calls. */
    private interface Ask {
        int of(HorizonSeam x);
    }

    /** An object of four stretches on day 3, with something seen, an image, and so much of a text on the tape. */
    private static HorizonSeam begun(String tape) {
        HorizonSeam x = of(FOUR);
        x.days(3);
        x.see(0, 0, 0);
        x.image();
        feedText(x, tape);
        return x;
    }

    /** All that can be asked of it, but for how many calls were refused. */
    private static String all(HorizonSeam x) {
        StringBuilder all = new StringBuilder();
        for (int what = 0; what <= 11; what++) {
            all.append(x.count(what)).append(' ');
        }
        all.append(x.fault());
        for (int i = 0; i < x.count(0); i++) {
            for (int what = 0; what <= 5; what++) {
                all.append(what == 0 ? "; " : " ").append(x.stretch(i, what));
            }
        }
        for (int w = 0; w < x.count(1); w++) {
            all.append("; ").append(x.woman(w, 0)).append(' ').append(x.woman(w, 1)).append(' ').append(x.woman(w, 2));
        }
        return all.append("; ").append(x.torn(0)).append(' ').append(x.torn(1)).append(' ').append(x.readings(112, 0)).toString();
    }

    private static String status(HorizonSeam x) {
        return x.count(12) + " " + x.count(13) + " " + x.count(14);
    }

    private static void unchanged(String what, String was, String is) {
        if (!was.equals(is)) {
            complain(what + " changed " + was + " to " + is);
        }
    }

    /** The call throws, and nothing changes, nor is it counted as refused. */
    private static void thrown(HorizonSeam x, String what, int exception, Ask ask) {
        String was = all(x) + status(x);
        due(what, exception, () -> ask.of(x));
        unchanged(what, was, all(x) + status(x));
    }

    private static void noSuch(HorizonSeam x, String what, Ask ask) {
        thrown(x, what, NO_SUCH, ask);
    }

    private static void illegal(HorizonSeam x, String what, Ask ask) {
        thrown(x, what, ILLEGAL, ask);
    }

    /** The call answers NONE, nothing changes, and it counts for this STATUS alone. */
    private static void refused(HorizonSeam x, int which, String what, Ask ask) {
        String was = all(x);
        int[] counts = {x.count(12), x.count(13), x.count(14)};
        counts[which]++;
        due(what, NONE, () -> ask.of(x));
        unchanged(what, was, all(x));
        unchanged(what + ": status", counts[0] + " " + counts[1] + " " + counts[2], status(x));
    }

    private static void refusedAct(HorizonSeam x, String what, Ask ask) {
        refused(x, 1, what, ask);
    }

    private static void aNewObject() {
        says("Promise 1: 3 STRETCHES, as without any told; no WOMEN, no WORDS");
        HorizonSeam x = new HorizonSeam();
        int[] counts = {3, 0, 0, 7, 0, 0, 150, 0, 0, 0, 0, 0, 0, 0, 0};
        for (int k = 0; k < counts.length; k++) {
            int what = k;
            due("count(" + k + ")", counts[k], () -> x.count(what));
        }
        for (int i = 0; i < 3; i++) {
            int stretch = i;
            int[] of = {0, 50, 0, 0, 0, 0};
            for (int k = 0; k < 6; k++) {
                int what = k;
                due("stretch(" + i + ", " + k + ")", of[k], () -> x.stretch(stretch, what));
            }
        }
        noSuch(x, "stretch(3, 0)", it -> it.stretch(3, 0));
        noSuch(x, "woman(0, 0)", it -> it.woman(0, 0));
        due("fault()", NONE, () -> x.fault());
        due("undo()", NONE, () -> x.undo());
        due("restore()", 0, () -> bit(x.restore()));
        due("readings(0, 0)", 0, () -> x.readings(0, 0));
    }

    private static void feed() {
        says("Promise 2: Twenty bytes come behind the tape, of each number the highest first: how many it has");
        HorizonSeam x = new HorizonSeam();
        // "week" "    " "\n3;k" "nots" " 12;"
        due("feed()", 20, () -> x.feed(0x7765656B, 0x20202020, 0x0A333B6B, 0x6E6F7473, 0x2031323B));
        due("ring(20)", 0, () -> x.ring(20));
        due("week", 3, () -> x.count(3));
        due("words", 1, () -> x.readings(12, 0));
        HorizonSeam y = new HorizonSeam();
        due("feed() of bytes above 127", 20, () -> y.feed(-1, LEAST, MOST, 0, -128));
        due("ring(1)", 1, () -> y.ring(1));

        says("Promise 2: NONE, and none come, if it would have more than 700");
        HorizonSeam z = new HorizonSeam();
        for (int k = 1; k <= 34; k++) {
            int many = 20 * k;
            due("feed()", many, () -> z.feed(0x20202020, 0x20202020, 0x20202020, 0x20202020, 0x20202020));
        }
        due("the 35th", 700, () -> z.feed(0x20202020, 0x20202020, 0x20202020, 0x7765656B, 0x2032203B));
        due("the 36th", NONE, () -> z.feed(0x21212121, 0x21212121, 0x21212121, 0x21212121, 0x21212121));
        due("the 37th", NONE, () -> z.feed(0, 0, 0, 0, 0));
        due("bytes of the tape", 700, () -> z.count(11));
        due("that isn't a refused act, text or sight", 0, () -> z.count(12) + z.count(13) + z.count(14));
        due("ring(700)", 0, () -> z.ring(700));
        due("week", 2, () -> z.count(3));
        due("the tape is empty then", 20, () -> z.feed(0, 0, 0, 0, 0));
    }

    private static void ring() {
        says("Promise 3: IllegalArgumentException: the tape has not so many, n below 0 (nothing changes)");
        illegal(begun(""), "ring(1) of none", it -> it.ring(1));
        illegal(begun(""), "ring(-1) of none", it -> it.ring(-1));
        due("ring(0) of none", 0, () -> new HorizonSeam().ring(0));
        illegal(begun("week 3;"), "ring(21) of 20", it -> it.ring(21));
        illegal(begun("week 3;"), "ring(-1) of 20", it -> it.ring(-1));
        illegal(begun("week 3;"), "ring(MOST)", it -> it.ring(MOST));
        HorizonSeam x = begun("week 3;");
        illegal(x, "ring(LEAST)", it -> it.ring(LEAST));
        due("the image is there, too", 1, () -> bit(x.restore()));
        due("the tape is there, too", 20, () -> x.count(11));
        due("ring(20) of 20", 0, () -> x.ring(20));
        due("week", 3, () -> x.count(3));

        says("Promise 3: The tape's first n bytes (it is empty then)");
        HorizonSeam y = new HorizonSeam();
        feedText(y, "week 3;week 4;!");
        due("ring(7) of 20", 0, () -> y.ring(7));
        due("week", 3, () -> y.count(3));
        due("the tape", 0, () -> y.count(11));
        illegal(y, "ring(1)", it -> it.ring(1));
        feedText(y, "week 5;!");
        due("ring(8) has a fault", 1, () -> y.ring(8));
        due("the tape is empty then, too", 0, () -> y.count(11));
        illegal(y, "ring(1)", it -> it.ring(1));
        feedText(y, "week 6;");
        due("ring(0) of 20", 0, () -> y.ring(0));
        due("the tape", 0, () -> y.count(11));
        due("week 7 without", 7, () -> y.count(3));

        says("Promise 3: 0, or the FAULT (all stays)");
        for (String text : new String[] {"!", "week 0;", "frays x;", "knots 1 1;", "week 1;week 1;",
            "stretch 9 9 9;", "stretch 1 2 0;woman 1 0 1;week 5;knots 7;frays 3;pulls 4;!"}) {
            HorizonSeam z = begun("");
            z.go(0, 3);
            String was = withoutPlace(z);
            int[] kind = {ring(z, text)};
            due("a fault", 1, () -> bit(kind[0] >= 1 && kind[0] <= 5));
            unchanged("a fault", was, withoutPlace(z));
            due("acts stay", 1, () -> z.undo());
            due("the image stays", 1, () -> bit(z.restore()));
        }
        due("rules stay", -8, () -> {
            HorizonSeam v = of("pulls 0-8;frays 8;");
            ring(v, "pulls 1;frays 1;!");
            return v.stretch(0, 5) + v.stretch(0, 4) - 8;
        });
    }

    private static String withoutPlace(HorizonSeam x) {
        return all(x).replaceFirst(" -?[0-9]*;", ";");
    }

    private static void ringAnew() {
        says("Promise 3: all anew. ACTS, what is SEEN, the image are gone (STATUS stays)");
        HorizonSeam x = of(FOUR + "pulls 1;frays 2;");
        x.days(20);
        x.days(0);
        x.stitch(1, 2);
        x.see(0, 0, 0);
        x.see(0, 0, 100);
        x.image();
        ring(x, "!");
        due("status", 1, () -> x.count(12));
        due("ring(0)", 0, () -> x.ring(0));
        int[] counts = {3, 0, 0, 7, 0, 0, 150, 0, 0, 0, 0, 0, 1, 1, 1};
        for (int k = 0; k < counts.length; k++) {
            int what = k;
            due("count(" + k + ")", counts[k], () -> x.count(what));
        }
        due("undo()", NONE, () -> x.undo());
        due("restore()", 0, () -> bit(x.restore()));
        due("torn(0)", 150, () -> x.torn(0));
        due("pulls", 0, () -> x.stretch(0, 5));
        due("frays", 0, () -> x.stretch(0, 4));
        due("stitch", 0, () -> x.stretch(1, 2));
        due("readings", 0, () -> x.readings(1, 0));
        due("fault()", NONE, () -> x.fault());

        says("Promise 3: a second ring begins at DAY 0, as it is told");
        HorizonSeam y = of(FOUR);
        y.days(5);
        y.later(60, 0);
        due("ring", 0, () -> ring(y, FOUR));
        unchanged("a second ring", all(of(FOUR)), all(y));
        due("the day", 0, () -> y.count(4));
        ringsInTurn();
    }

    /** Of many rings one behind the other, each is as if it were the first. */
    private static void ringsInTurn() {
        says("Promise 3: all anew, whatever was told ahead of it");
        String six = times("stretch 7 9 2;", 12) + times("woman 5 11 50;", 6);
        String rules = "stretch 1 50 0;frays " + times("1+", 200) + "(0-190);pulls " + times("1-", 60) + "(0-55);";
        String[] texts = {six, "", rules, FOUR, rules, rules, "stretch 0 9 1;woman 0 0 1;", six, FOUR, "week 3;",
            "knots 1 2 3 4 5 6 7 8;", "pulls 1;", "frays 1;", "", rules, "stretch 9 9 1;stretch 9 9 1;stretch 9 9 1;"
            + "woman 1 0 1;woman 1 1 1;woman 1 2 1;", rules};
        for (int k = 0; k < texts.length; k++) {
            HorizonSeam x = new HorizonSeam();
            for (int turn = 0; turn < 4; turn++) {
                String ahead = texts[(k + turn) % texts.length];
                due("ring", 0, () -> ring(x, ahead));
                x.sent(x.count(1) == 0 ? 0 : 1, NONE);
                x.sent(x.count(1) < 6 ? 0 : 63, NONE);
                x.days(3);
            }
            String text = texts[k];
            due("ring", 0, () -> ring(x, text));
            HorizonSeam alone = of(text);
            unchanged("ring of '" + text + "'", all(alone), all(x));
            due("where all are sent to", alone.sent(7, NONE), () -> x.sent(7, NONE));
            due("years", alone.years(5, 20, 1), () -> x.years(5, 20, 1));
        }
    }

    private static void faultPlace() {
        says("Promise 4: The place of the latest ring()'s FAULT; NONE without");
        HorizonSeam x = new HorizonSeam();
        due("without a ring", NONE, () -> x.fault());
        ring(x, "week 10;");
        due("place", 5, () -> x.fault());
        due("asked again", 5, () -> x.fault());
        ring(x, "!");
        due("place 0", 0, () -> x.fault());
        illegal(x, "ring(1)", it -> it.ring(1));
        due("a ring that throws is none", 0, () -> x.fault());
        x.ring(0);
        due("without a fault", NONE, () -> x.fault());
        ring(x, times(" ", 699) + "!");
        due("place 699", 699, () -> x.fault());
        ring(x, times(" ", 696) + "week");
        due("place 700", 700, () -> x.fault());
    }

    private static void looking() {
        HorizonSeam x = of(FOUR);
        says("Promise 5: NoSuchElementException: another what");
        for (int what : new int[] {LEAST, -1, 15, 16, MOST}) {
            noSuch(of(FOUR), "count(" + what + ")", it -> it.count(what));
        }
        due("count(14)", 0, () -> x.count(14));

        says("Promise 5: of all there can be");
        HorizonSeam most = of(times("stretch 99 99 2;", 12) + times("woman 9 11 99;", 6) + "week 9;knots 1 2 3 4 5 6 7 8;");
        int[] counts = {12, 6, 8, 9, 0, 0, 1188, 594, 62};
        for (int k = 0; k < counts.length; k++) {
            int what = k;
            due("count(" + k + ")", counts[k], () -> most.count(what));
        }
        HorizonSeam least = of(times("stretch 0 0 0;", 12) + times("woman 0 0 0;", 6) + "week 1;");
        int[] none = {12, 6, 0, 1, 0, 4095, 0, 0, 63};
        for (int k = 0; k < none.length; k++) {
            int what = k;
            due("count(" + k + ") of what is open and bare", none[k], () -> least.count(what));
        }

        says("Promise 6: NoSuchElementException: no such STRETCH (as everywhere), what");
        for (int wrong : new int[] {LEAST, -1, 4, 11, 12, MOST}) {
            noSuch(of(FOUR), "stretch(" + wrong + ", 0)", it -> it.stretch(wrong, 0));
            noSuch(of(FOUR), "stretch(" + wrong + ", 6)", it -> it.stretch(wrong, 6));
        }
        for (int wrong : new int[] {LEAST, -1, 6, 7, MOST}) {
            noSuch(of(FOUR), "stretch(0, " + wrong + ")", it -> it.stretch(0, wrong));
        }
        due("stretch(3, 5)", 5, () -> x.stretch(3, 5));

        says("Promise 6: what FRAYS, PULLS gives, kept (0: OPEN)");
        HorizonSeam open = of("stretch 90 0 0;stretch 90 1 0;pulls 7;frays 8;");
        due("frays of an open one", 0, () -> open.stretch(0, 4));
        due("pulls of an open one", 0, () -> open.stretch(0, 5));
        due("frays of 1", 8, () -> open.stretch(1, 4));
        due("pulls of 1", 7, () -> open.stretch(1, 5));
        due("without rules: frays of an open one", 0, () -> of("stretch 90 0 0;").stretch(0, 4));
        due("without rules: pulls of an open one", 0, () -> of("stretch 90 0 0;").stretch(0, 5));

        says("Promise 6: WOMEN at it (bits)");
        HorizonSeam six = of("stretch 0 9 0;stretch 0 9 0;woman 0 1 0;woman 0 0 0;woman 0 1 0;woman 0 1 0;woman 0 0 0;woman 0 1 0;");
        due("at 0", 18, () -> six.stretch(0, 3));
        due("at 1", 45, () -> six.stretch(1, 3));
        due("at 2", 0, () -> six.stretch(2, 3));

        says("Promise 7: NoSuchElementException: no such WOMAN (as everywhere), what");
        for (int wrong : new int[] {LEAST, -1, 2, 5, 6, MOST}) {
            noSuch(of(FOUR), "woman(" + wrong + ", 0)", it -> it.woman(wrong, 0));
        }
        for (int wrong : new int[] {LEAST, -1, 3, MOST}) {
            noSuch(of(FOUR), "woman(1, " + wrong + ")", it -> it.woman(1, wrong));
        }
        due("woman(1, 2)", 1, () -> x.woman(1, 2));
    }

    private static void days() {
        says("Promise 8: NONE (STATUS 1): not 1 to 20");
        HorizonSeam x = of(FOUR);
        for (int wrong : new int[] {LEAST, -1, 0, 21, 22, MOST}) {
            refusedAct(of(FOUR), "days(" + wrong + ")", it -> it.days(wrong));
        }
        due("days(1)", 1, () -> x.days(1));
        due("days(20)", 21, () -> x.days(20));

        says("Promise 8: NONE (STATUS 1): it would be above 999");
        HorizonSeam y = new HorizonSeam();
        for (int k = 1; k <= 49; k++) {
            y.days(20);
        }
        due("the day", 980, () -> y.count(4));
        refusedAct(y, "days(20) on day 980", it -> it.days(20));
        due("days(18)", 998, () -> y.days(18));
        refusedAct(y, "days(2) on day 998", it -> it.days(2));
        due("days(1)", 999, () -> y.days(1));
        refusedAct(y, "days(1) on day 999", it -> it.days(1));
        refusedAct(y, "days(MOST) on day 999", it -> it.days(MOST));
        due("undo()", 39, () -> y.undo());
        due("days(1) again", 999, () -> y.days(1));
    }

    private static void actsOfWomen() {
        says("Promise 9: NONE (STATUS 1): she has no THREAD");
        String two = "stretch 0 9 0;stretch 0 0 0;stretch 0 9 0;woman 1 0 1;woman 1 1 0;" + STILL;
        HorizonSeam x = of(two);
        refusedAct(x, "mend(1)", it -> it.mend(1));
        due("mend(0)", 14, () -> x.mend(0));
        refusedAct(x, "mend(0)", it -> it.mend(0));
        for (int wrong : new int[] {LEAST, -1, 2, 6, MOST}) {
            noSuch(of(two), "mend(" + wrong + ")", it -> it.mend(wrong));
        }

        says("Promise 10: NONE (STATUS 1): she is there. NoSuchElementException (ahead): no such WOMAN, STRETCH");
        refusedAct(x, "go(0, 0)", it -> it.go(0, 0));
        due("go(0, 2)", 0, () -> x.go(0, 2));
        refusedAct(x, "go(0, 2)", it -> it.go(0, 2));
        for (int wrong : new int[] {LEAST, -1, 3, 12, MOST}) {
            noSuch(of(two), "go(0, " + wrong + ")", it -> it.go(0, wrong));
            noSuch(of(two), "go(" + wrong + ", 0)", it -> it.go(wrong, 0));
            noSuch(of(two), "go(" + wrong + ", " + wrong + ")", it -> it.go(wrong, wrong));
        }
        noSuch(of(two), "go(2, 2)", it -> it.go(2, 2));

        says("Promise 12: NONE (STATUS 1): not 1 to 50");
        for (int wrong : new int[] {LEAST, -1, 0, 51, 99, MOST}) {
            refusedAct(of(two), "thread(0, " + wrong + ")", it -> it.thread(0, wrong));
            noSuch(of(two), "thread(2, " + wrong + ")", it -> it.thread(2, wrong));
        }
        for (int wrong : new int[] {LEAST, -1, 2, MOST}) {
            noSuch(of(two), "thread(" + wrong + ", 5)", it -> it.thread(wrong, 5));
        }
        due("thread(0, 1)", 1, () -> x.thread(0, 1));
        due("thread(0, 50)", 51, () -> x.thread(0, 50));
    }

    private static void actsOfStretches() {
        says("Promise 11: NONE (STATUS 1): not 0 to 2, it is that one");
        String three = "stretch 0 9 0;stretch 0 0 1;stretch 0 9 2;woman 1 0 1;" + STILL;
        HorizonSeam x = of(three);
        for (int wrong : new int[] {LEAST, -1, 3, MOST}) {
            refusedAct(of(three), "stitch(0, " + wrong + ")", it -> it.stitch(0, wrong));
            noSuch(of(three), "stitch(3, " + wrong + ")", it -> it.stitch(3, wrong));
            noSuch(of(three), "stitch(" + wrong + ", 0)", it -> it.stitch(wrong, 0));
        }
        for (int kind = 0; kind <= 2; kind++) {
            int same = kind;
            refusedAct(of(three), "stitch(" + kind + ", " + kind + ")", it -> it.stitch(same, same));
        }
        due("stitch(0, 2)", 0, () -> x.stitch(0, 2));
        due("stitch(1, 0) of an open one", 1, () -> x.stitch(1, 0));
        due("stitch(2, 1)", 2, () -> x.stitch(2, 1));

        says("Promise 13: NONE (STATUS 1): not 1 to 50, it is OPEN");
        for (int wrong : new int[] {LEAST, -1, 0, 51, MOST}) {
            refusedAct(of(three), "tear(0, " + wrong + ")", it -> it.tear(0, wrong));
            refusedAct(of(three), "tear(1, " + wrong + ") of an open one", it -> it.tear(1, wrong));
            noSuch(of(three), "tear(3, " + wrong + ")", it -> it.tear(3, wrong));
        }
        refusedAct(x, "tear(1, 1) of an open one", it -> it.tear(1, 1));
        refusedAct(x, "tear(1, 50) of an open one", it -> it.tear(1, 50));
        for (int wrong : new int[] {LEAST, -1, 3, MOST}) {
            noSuch(of(three), "tear(" + wrong + ", 5)", it -> it.tear(wrong, 5));
        }
        due("tear(0, 8)", 1, () -> x.tear(0, 8));
        due("tear(0, 1)", 0, () -> x.tear(0, 1));
        refusedAct(x, "tear(0, 1), as it is open", it -> it.tear(0, 1));
    }

    private static void undo() {
        says("Promise 14: NONE: there is none");
        HorizonSeam x = of(FOUR);
        String was = all(x) + status(x);
        due("undo()", NONE, () -> x.undo());
        unchanged("undo(): nothing is refused by it", was, all(x) + status(x));
        x.days(1);
        due("undo()", 0, () -> x.undo());
        unchanged("undo()", was, all(x) + status(x));
        due("undo()", NONE, () -> x.undo());
        unchanged("undo()", was, all(x) + status(x));
        x.see(1, 1, 1);
        due("what is seen is no act", NONE, () -> x.undo());
        x.mend(0);
        due("undo()", 0, () -> x.undo());
        due("what is seen stays", 1, () -> x.count(10));
    }

    private static void ahead() {
        HorizonSeam x = of(FOUR);
        says("Promise 15: NoSuchElementException: also another what. IllegalArgumentException (behind that): not 0 to 60");
        for (int wrong : new int[] {LEAST, -1, 61, MOST}) {
            illegal(of(FOUR), "then(0, " + wrong + ", 0)", it -> it.then(0, wrong, 0));
            illegal(of(FOUR), "then(3, " + wrong + ", 1)", it -> it.then(3, wrong, 1));
            noSuch(of(FOUR), "then(4, " + wrong + ", 0)", it -> it.then(4, wrong, 0));
            noSuch(of(FOUR), "then(-1, " + wrong + ", 0)", it -> it.then(-1, wrong, 0));
            noSuch(of(FOUR), "then(0, " + wrong + ", 2)", it -> it.then(0, wrong, 2));
            noSuch(of(FOUR), "then(0, " + wrong + ", -1)", it -> it.then(0, wrong, -1));
        }
        for (int wrong : new int[] {LEAST, -1, 4, MOST}) {
            noSuch(of(FOUR), "then(" + wrong + ", 0, 0)", it -> it.then(wrong, 0, 0));
        }
        for (int wrong : new int[] {LEAST, -1, 2, MOST}) {
            noSuch(of(FOUR), "then(0, 0, " + wrong + ")", it -> it.then(0, 0, wrong));
        }

        says("Promise 16: NoSuchElementException: another what. IllegalArgumentException (behind that): not 0 to 60");
        for (int wrong : new int[] {LEAST, -1, 61, MOST}) {
            for (int what = 0; what <= 3; what++) {
                int which = what;
                illegal(of(FOUR), "later(" + wrong + ", " + what + ")", it -> it.later(wrong, which));
            }
            noSuch(of(FOUR), "later(" + wrong + ", 4)", it -> it.later(wrong, 4));
            noSuch(of(FOUR), "later(" + wrong + ", -1)", it -> it.later(wrong, -1));
        }
        for (int wrong : new int[] {LEAST, -1, 4, MOST}) {
            noSuch(of(FOUR), "later(0, " + wrong + ")", it -> it.later(0, wrong));
        }

        says("Promise 17: no such STRETCH (as everywhere)");
        for (int wrong : new int[] {LEAST, -1, 4, 12, MOST}) {
            noSuch(of(FOUR), "opens(" + wrong + ")", it -> it.opens(wrong));
        }
    }

    private static void aheadOfWomen() {
        HorizonSeam x = of(FOUR);
        says("Promise 19: NoSuchElementException: also another what. IllegalArgumentException (behind that): not 0 to 60");
        for (int wrong : new int[] {LEAST, -1, 61, MOST}) {
            illegal(of(FOUR), "where(0, " + wrong + ", 0)", it -> it.where(0, wrong, 0));
            illegal(of(FOUR), "where(1, " + wrong + ", 1)", it -> it.where(1, wrong, 1));
            noSuch(of(FOUR), "where(2, " + wrong + ", 0)", it -> it.where(2, wrong, 0));
            noSuch(of(FOUR), "where(-1, " + wrong + ", 0)", it -> it.where(-1, wrong, 0));
            noSuch(of(FOUR), "where(0, " + wrong + ", 2)", it -> it.where(0, wrong, 2));
            noSuch(of(FOUR), "where(0, " + wrong + ", -1)", it -> it.where(0, wrong, -1));
        }
        for (int wrong : new int[] {LEAST, -1, 2, MOST}) {
            noSuch(of(FOUR), "where(" + wrong + ", 0, 0)", it -> it.where(wrong, 0, 0));
            noSuch(of(FOUR), "where(0, 0, " + wrong + ")", it -> it.where(0, 0, wrong));
        }

        says("Promise 40: NONE: none, both are one");
        due("meet(0, 0)", NONE, () -> x.meet(0, 0));
        due("meet(1, 1)", NONE, () -> x.meet(1, 1));
        for (int wrong : new int[] {LEAST, -1, 2, MOST}) {
            noSuch(of(FOUR), "meet(" + wrong + ", 0)", it -> it.meet(wrong, 0));
            noSuch(of(FOUR), "meet(0, " + wrong + ")", it -> it.meet(0, wrong));
            noSuch(of(FOUR), "meet(" + wrong + ", " + wrong + ")", it -> it.meet(wrong, wrong));
        }

        says("Promise 41: IllegalArgumentException: not 0 to 60");
        for (int wrong : new int[] {LEAST, -1, 61, MOST}) {
            illegal(of(FOUR), "bare(" + wrong + ")", it -> it.bare(wrong));
        }
    }

    private static void advice() {
        HorizonSeam x = of(FOUR);
        says("Promises 21, 23: IllegalArgumentException (behind NoSuchElementException): not 1 to 60");
        for (int wrong : new int[] {LEAST, -1, 0, 61, MOST}) {
            illegal(of(FOUR), "toHold(0, " + wrong + ")", it -> it.toHold(0, wrong));
            noSuch(of(FOUR), "toHold(4, " + wrong + ")", it -> it.toHold(4, wrong));
            noSuch(of(FOUR), "toHold(-1, " + wrong + ")", it -> it.toHold(-1, wrong));
            illegal(of(FOUR), "bestStitch(3, " + wrong + ")", it -> it.bestStitch(3, wrong));
            noSuch(of(FOUR), "bestStitch(4, " + wrong + ")", it -> it.bestStitch(4, wrong));
            noSuch(of(FOUR), "bestStitch(-1, " + wrong + ")", it -> it.bestStitch(-1, wrong));
        }
        for (int wrong : new int[] {LEAST, -1, 4, MOST}) {
            noSuch(of(FOUR), "toHold(" + wrong + ", 1)", it -> it.toHold(wrong, 1));
            noSuch(of(FOUR), "bestStitch(" + wrong + ", 60)", it -> it.bestStitch(wrong, 60));
        }

        says("Promise 22: NoSuchElementException: also another what. IllegalArgumentException (behind that): not 1 to 60");
        for (int wrong : new int[] {LEAST, -1, 0, 61, MOST}) {
            illegal(of(FOUR), "toSend(0, " + wrong + ", 0)", it -> it.toSend(0, wrong, 0));
            illegal(of(FOUR), "toSend(1, " + wrong + ", 1)", it -> it.toSend(1, wrong, 1));
            noSuch(of(FOUR), "toSend(2, " + wrong + ", 0)", it -> it.toSend(2, wrong, 0));
            noSuch(of(FOUR), "toSend(0, " + wrong + ", 2)", it -> it.toSend(0, wrong, 2));
            noSuch(of(FOUR), "toSend(0, " + wrong + ", -1)", it -> it.toSend(0, wrong, -1));
        }
        for (int wrong : new int[] {LEAST, -1, 2, MOST}) {
            noSuch(of(FOUR), "toSend(" + wrong + ", 1, 0)", it -> it.toSend(wrong, 1, 0));
            noSuch(of(FOUR), "toSend(0, 1, " + wrong + ")", it -> it.toSend(0, 1, wrong));
        }
        HorizonSeam fresh = new HorizonSeam();
        noSuch(fresh, "toSend(0, 1, 0) without WOMEN", it -> it.toSend(0, 1, 0));

        says("Promise 24: IllegalArgumentException: not bits of STRETCHES, more than 6. NoSuchElementException (behind that)");
        for (int wrong : new int[] {LEAST, -1, 16, 17, 4096, MOST}) {
            illegal(of(FOUR), "sent(" + wrong + ", NONE)", it -> it.sent(wrong, NONE));
            illegal(of(FOUR), "sent(" + wrong + ", 0)", it -> it.sent(wrong, 0));
            illegal(of(FOUR), "sent(" + wrong + ", 9)", it -> it.sent(wrong, 9));
        }
        for (int wrong : new int[] {LEAST, -2, 1, 3, 4, 31, 32, 34, MOST}) {
            noSuch(of(FOUR), "sent(5, " + wrong + ")", it -> it.sent(5, wrong));
        }
        noSuch(of(FOUR), "sent(0, 0)", it -> it.sent(0, 0));
        noSuch(of(FOUR), "sent(7, 3), though there are fewer WOMEN", it -> it.sent(7, 3));
        due("sent(7, 2)", FEWER_WOMEN, () -> x.sent(7, 2));
        due("sent(15, NONE)", FEWER_WOMEN, () -> x.sent(15, NONE));
        HorizonSeam twelve = of(times("stretch 0 9 0;", 12) + times("woman 0 0 0;", 6));
        illegal(twelve, "sent of 7 of 12", it -> it.sent(127, NONE));
        illegal(of(times("stretch 0 9 0;", 12)), "sent of 7 of 12, none of these", it -> it.sent(127, 9));
        due("sent of 6 of 12", 15, () -> twelve.sent(63, NONE));
        due("sent of 6 of 12, to the last", 1, () -> twelve.sent(1 | 2048, 11));
    }

    private static void rows() {
        HorizonSeam x = of(FOUR);
        says("Promise 25: NoSuchElementException: another what");
        for (int wrong : new int[] {LEAST, -1, 2, MOST}) {
            noSuch(of(FOUR), "closed(" + wrong + ")", it -> it.closed(wrong));
        }

        says("Promise 26: NoSuchElementException: another what. IllegalArgumentException (behind that): not 1 to 12");
        for (int wrong : new int[] {LEAST, -1, 0, 13, MOST}) {
            illegal(of(FOUR), "tight(" + wrong + ", 0)", it -> it.tight(wrong, 0));
            illegal(of(FOUR), "tight(" + wrong + ", 1)", it -> it.tight(wrong, 1));
            noSuch(of(FOUR), "tight(" + wrong + ", 2)", it -> it.tight(wrong, 2));
            noSuch(of(FOUR), "tight(" + wrong + ", -1)", it -> it.tight(wrong, -1));
        }
        for (int wrong : new int[] {LEAST, -1, 2, MOST}) {
            noSuch(of(FOUR), "tight(1, " + wrong + ")", it -> it.tight(1, wrong));
            noSuch(of(FOUR), "tight(5, " + wrong + "), there being fewer", it -> it.tight(5, wrong));
        }
        for (int many = 5; many <= 12; many++) {
            int row = many;
            due("tight(" + many + ", 0)", NONE, () -> x.tight(row, 0));
            due("tight(" + many + ", 1)", NONE, () -> x.tight(row, 1));
        }
        due("tight(4, 0)", 72, () -> x.tight(4, 0));

        says("Promise 27: NoSuchElementException: another what. IllegalArgumentException (behind that): not 0 to 999999999");
        for (int wrong : new int[] {LEAST, -1, 1000000000, MOST}) {
            illegal(of(FOUR), "readings(" + wrong + ", 0)", it -> it.readings(wrong, 0));
            illegal(of(FOUR), "readings(" + wrong + ", 1)", it -> it.readings(wrong, 1));
            noSuch(of(FOUR), "readings(" + wrong + ", 2)", it -> it.readings(wrong, 2));
            noSuch(of(FOUR), "readings(" + wrong + ", -1)", it -> it.readings(wrong, -1));
        }
        for (int wrong : new int[] {LEAST, -1, 2, MOST}) {
            noSuch(of(FOUR), "readings(1, " + wrong + ")", it -> it.readings(1, wrong));
        }
        due("readings(999999999, 0)", 0, () -> x.readings(999999999, 0));
        due("readings(0, 1)", NONE, () -> x.readings(0, 1));
    }

    private static void sights() {
        says("Promise 28: NONE (STATUS 2): there are 8, not 0 to 20, not 0 to 99. NoSuchElementException (ahead)");
        HorizonSeam x = of(FOUR);
        for (int wrong : new int[] {LEAST, -1, 21, MOST}) {
            refused(of(FOUR), 2, "see(0, " + wrong + ", 0)", it -> it.see(0, wrong, 0));
            noSuch(of(FOUR), "see(4, " + wrong + ", 0)", it -> it.see(4, wrong, 0));
        }
        for (int wrong : new int[] {LEAST, -1, 100, MOST}) {
            refused(of(FOUR), 2, "see(0, 0, " + wrong + ")", it -> it.see(0, 0, wrong));
            noSuch(of(FOUR), "see(-1, 0, " + wrong + ")", it -> it.see(-1, 0, wrong));
        }
        for (int wrong : new int[] {LEAST, -1, 4, MOST}) {
            noSuch(of(FOUR), "see(" + wrong + ", 0, 0)", it -> it.see(wrong, 0, 0));
        }
        for (int k = 1; k <= 8; k++) {
            int many = k;
            due("see()", many, () -> x.see(3, 0, 20));
        }
        refused(x, 2, "the 9th", it -> it.see(3, 0, 20));
        refused(x, 2, "the 9th, another one", it -> it.see(0, 20, 99));
        noSuch(x, "the 9th, of no stretch", it -> it.see(4, 0, 20));

        says("Promise 29: All that is SEEN is forgotten");
        String status = status(x);
        x.forget();
        due("seen", 0, () -> x.count(10));
        unchanged("forget()", status, status(x));
        due("see() anew", 1, () -> x.see(3, 0, 20));
        x.forget();
        x.forget();
        due("forgotten twice", 0, () -> x.count(10));
        due("torn(0): nothing is seen", 200, () -> x.torn(0));

        says("Promise 30: NoSuchElementException: another what");
        for (int wrong : new int[] {LEAST, -1, 3, MOST}) {
            noSuch(of(FOUR), "torn(" + wrong + ")", it -> it.torn(wrong));
        }
        says("Promise 31: NoSuchElementException: another what");
        for (int wrong : new int[] {LEAST, -1, 2, MOST}) {
            noSuch(of(FOUR), "look(" + wrong + ")", it -> it.look(wrong));
        }
    }

    private static void chances() {
        HorizonSeam x = of(FOUR);
        says("Promise 32: IllegalArgumentException: days, tenths");
        for (int wrong : new int[] {LEAST, -1, 0, 6, MOST}) {
            illegal(of(FOUR), "gales(" + wrong + ", 5)", it -> it.gales(wrong, 5));
            illegal(of(FOUR), "gales(" + wrong + ", 11)", it -> it.gales(wrong, 11));
        }
        for (int wrong : new int[] {LEAST, -1, 11, MOST}) {
            illegal(of(FOUR), "gales(1, " + wrong + ")", it -> it.gales(1, wrong));
            illegal(of(FOUR), "gales(5, " + wrong + ")", it -> it.gales(5, wrong));
        }

        says("Promise 33: NoSuchElementException: also another what. IllegalArgumentException (behind that): both are one");
        for (int what = 0; what <= 1; what++) {
            int which = what;
            illegal(of(FOUR), "game(0, 0, " + what + ")", it -> it.game(0, 0, which));
            illegal(of(FOUR), "game(1, 1, " + what + ")", it -> it.game(1, 1, which));
        }
        for (int wrong : new int[] {LEAST, -1, 2, MOST}) {
            noSuch(of(FOUR), "game(0, 1, " + wrong + ")", it -> it.game(0, 1, wrong));
            noSuch(of(FOUR), "game(0, 0, " + wrong + ")", it -> it.game(0, 0, wrong));
            noSuch(of(FOUR), "game(" + wrong + ", 0, 0)", it -> it.game(wrong, 0, 0));
            noSuch(of(FOUR), "game(0, " + wrong + ", 0)", it -> it.game(0, wrong, 0));
            noSuch(of(FOUR), "game(" + wrong + ", " + wrong + ", 0)", it -> it.game(wrong, wrong, 0));
        }

        says("Promise 34: NoSuchElementException: another what. IllegalArgumentException (behind that): n");
        for (int wrong : new int[] {LEAST, -1, 61, MOST}) {
            for (int what = 0; what <= 2; what++) {
                int which = what;
                illegal(of(FOUR), "years(1, " + wrong + ", " + what + ")", it -> it.years(1, wrong, which));
            }
            noSuch(of(FOUR), "years(1, " + wrong + ", 3)", it -> it.years(1, wrong, 3));
            noSuch(of(FOUR), "years(1, " + wrong + ", -1)", it -> it.years(1, wrong, -1));
        }
        for (int wrong : new int[] {LEAST, -1, 3, MOST}) {
            noSuch(of(FOUR), "years(1, 0, " + wrong + ")", it -> it.years(1, 0, wrong));
        }
        for (int seed : new int[] {LEAST, -1, 0, MOST}) {
            due("years(" + seed + ", 0, 1)", 39, () -> x.years(seed, 0, 1));
        }
        due("the same seed gives the same", x.years(77, 60, 1), () -> x.years(77, 60, 1));
    }

    private static void others() {
        HorizonSeam x = of(FOUR);
        says("Promises 36, 37: no such STRETCH (as everywhere)");
        for (int wrong : new int[] {LEAST, -1, 4, 12, MOST}) {
            noSuch(of(FOUR), "nearest(" + wrong + ")", it -> it.nearest(wrong));
            noSuch(of(FOUR), "far(" + wrong + ", 0)", it -> it.far(wrong, 0));
            noSuch(of(FOUR), "far(0, " + wrong + ")", it -> it.far(0, wrong));
            noSuch(of(FOUR), "far(" + wrong + ", " + wrong + ")", it -> it.far(wrong, wrong));
        }

        says("Promise 39: IllegalArgumentException: not 1 to 50");
        HorizonSeam open = of(ALL_OPEN);
        for (int wrong : new int[] {LEAST, -1, 0, 51, MOST}) {
            illegal(of(FOUR), "worst(" + wrong + ")", it -> it.worst(wrong));
            illegal(open, "worst(" + wrong + "), all open", it -> it.worst(wrong));
        }

        says("Promise 42: IllegalArgumentException: not 0 to 99");
        for (int wrong : new int[] {LEAST, -1, 100, MOST}) {
            illegal(of(FOUR), "load(" + wrong + ")", it -> it.load(wrong));
        }
        says("what is only asked changes nothing");
        String was = all(x) + status(x);
        x.later(60, 0);
        x.opens(0);
        x.first();
        x.where(0, 60, 0);
        x.spent();
        x.toHold(0, 60);
        x.toSend(0, 60, 0);
        x.bestStitch(0, 60);
        x.sent(3, 0);
        x.closed(0);
        x.tight(2, 0);
        x.readings(12, 0);
        x.torn(0);
        x.look(0);
        x.gales(5, 5);
        x.game(0, 1, 0);
        x.years(3, 60, 0);
        x.steady();
        x.nearest(0);
        x.gaps();
        x.worst(5);
        x.meet(0, 1);
        x.bare(60);
        x.load(5);
        unchanged("asking", was, all(x) + status(x));
    }

    private static void image() {
        says("Promise 44: False: there is none");
        HorizonSeam x = of(FOUR);
        String was = all(x);
        due("restore()", 0, () -> bit(x.restore()));
        unchanged("restore() without", was, all(x));

        says("Promise 43: The DAY, STRAIN, SEAM, STITCHES, where WOMEN are, THREAD, ACTS and what is SEEN are kept");
        x.days(2);
        x.see(3, 4, 16);
        x.image();
        String kept = all(x);
        x.days(20);
        x.stitch(2, 1);
        x.go(0, 3);
        x.thread(0, 9);
        x.tear(x.closed(1), 5);
        x.see(0, 0, 0);
        due("restore()", 1, () -> bit(x.restore()));
        unchanged("restore()", kept, all(x));
        x.forget();
        x.undo();
        due("restore() again", 1, () -> bit(x.restore()));
        unchanged("restore() again", kept, all(x));
        due("the act of the image", 0, () -> x.undo());
        due("the day", 0, () -> x.count(4));
        due("what is seen stays", 1, () -> x.count(10));

        says("Promise 43: in place of another one");
        x.days(7);
        x.image();
        String second = all(x);
        x.days(5);
        due("restore()", 1, () -> bit(x.restore()));
        unchanged("restore()", second, all(x));

        says("Promise 44: They are as the image again: the tape, the FAULT's place and STATUS aren't of it");
        feedText(x, "week 1;");
        x.days(0);
        x.see(0, 0, 100);
        String status = status(x);
        due("restore()", 1, () -> bit(x.restore()));
        due("the tape", 20, () -> x.count(11));
        unchanged("restore(): status", status, status(x));
        due("restore() is no act", 1, () -> x.count(9));
        due("a second week, behind what the tape has", 5, () -> {
            feedText(x, "week 2;");
            return x.ring(27);
        });
        due("a fault leaves the image", 1, () -> bit(x.restore()));
        due("and its place stays", 20, () -> x.fault());
        due("status stays", 1, () -> x.count(12));
        x.ring(0);
        due("a ring takes it away", 0, () -> bit(x.restore()));
    }

    private static void imageAndActs() {
        says("Promise 43: ACTS, 40 of them, too");
        HorizonSeam x = of("stretch 0 99 0;" + STILL);
        for (int k = 0; k < 43; k++) {
            x.tear(0, 1);
        }
        x.image();
        for (int k = 0; k < 17; k++) {
            x.stitch(1, 1 + k % 2);
        }
        due("acts", 40, () -> x.count(9));
        due("restore()", 1, () -> bit(x.restore()));
        due("acts", 40, () -> x.count(9));
        due("seam", 56, () -> x.stretch(0, 1));
        due("stitch", 0, () -> x.stretch(1, 2));
        for (int left = 39; left >= 0; left--) {
            int still = left;
            due("undo()", still, () -> x.undo());
            due("seam then", 96 - still, () -> x.stretch(0, 1));
        }
        due("undo()", NONE, () -> x.undo());
        x.restore();
        due("all of them again", 40, () -> x.count(9));
        due("undo()", 39, () -> x.undo());
        due("seam", 57, () -> x.stretch(0, 1));

        says("Promise 43: 8 SEEN, too");
        for (int k = 0; k < 8; k++) {
            x.see(1, k, 50);
        }
        x.image();
        x.forget();
        x.see(2, 0, 1);
        x.restore();
        due("seen", 8, () -> x.count(10));
        due("the 9th", NONE, () -> x.see(0, 0, 0));
        due("so it is", 1, () -> x.torn(2));
        HorizonSeam none = new HorizonSeam();
        none.image();
        none.see(0, 0, 1);
        none.days(1);
        none.restore();
        due("an image without any", 0, () -> none.count(9) + none.count(10) + none.count(4));
    }

    private static void status() {
        says("STATUS: how many calls were refused: 0 of TEXTS with a FAULT, 1 of ACTS, 2 of what is SEEN");
        HorizonSeam x = new HorizonSeam();
        for (int k = 1; k <= 3; k++) {
            int many = k;
            ring(x, "!");
            due("texts", many, () -> x.count(12));
        }
        due("a text without one", 0, () -> ring(x, "stretch 0 9 0;woman 0 0 0;"));
        due("texts", 3, () -> x.count(12));
        due("a ring that throws", ILLEGAL, () -> x.ring(1));
        due("texts", 3, () -> x.count(12));
        x.days(0);
        x.mend(0);
        x.go(0, 0);
        x.stitch(0, 0);
        x.thread(0, 0);
        x.tear(0, 0);
        due("acts", 6, () -> x.count(13));
        x.see(0, 21, 0);
        x.see(0, 0, 100);
        due("sights", 2, () -> x.count(14));
        x.undo();
        x.days(1);
        x.undo();
        x.image();
        x.restore();
        due("none else", 11, () -> x.count(12) + x.count(13) + x.count(14));
    }
}
