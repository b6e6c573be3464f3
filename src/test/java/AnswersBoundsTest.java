/** "==== 3." to "==== 5.": each sentence of them that names a bound, with what lies on it, within it and beyond it. */
public final class AnswersBoundsTest extends Checks {
    /** Seams of 60, 61, 59; each loses 1 a day. */
    private static final String SIXTY = "stretch 0 60 0;stretch 0 61 0;stretch 0 59 0;pulls 0;frays 1;";

    public static void main(String[] args) {
        then();
        opens();
        first();
        tightestAndBalance();
        whereAndSpent();
        toHold();
        toSend();
        bestStitch();
        sent();
        sentInTheShortWay();
        closed();
        tight();
        readings();
        seen();
        torn();
        look();
        gales();
        game();
        years();
        yearsAtTheirBounds();
        yearsWithoutWomen();
        steady();
        nearestAndFar();
        gapsAndLoad();
        idleAndBare();
        worst();
        mendedAndMeet();
        end("the bounds of the answers hold");
    }

    // ---- 3.

    private static void then() {
        says("THEN, behind so many DAYS (0 to 60): STRAIN, SEAM of a STRETCH");
        HorizonSeam x = of("stretch 20 80 0;stretch 0 99 0;stretch 0 99 0;pulls 1;frays 1;");
        for (int days = 0; days <= 60; days++) {
            int many = days;
            due("strain behind " + days, 20 + days, () -> x.then(0, many, 0));
            due("seam behind " + days, 80 - days, () -> x.then(0, many, 1));
        }
        due("61", ILLEGAL, () -> x.then(0, 61, 0));
        due("-1", ILLEGAL, () -> x.then(0, -1, 0));
        due("it isn't then yet", 20, () -> x.stretch(0, 0));
        x.days(1);
        due("from now on", 22, () -> x.then(0, 1, 0));
        HorizonSeam late = of("stretch 0 99 0;pulls 0;frays day=1000;");
        for (int k = 0; k < 49; k++) {
            late.days(20);
        }
        late.days(19);
        due("days beyond 999, too: not yet", 99, () -> late.then(0, 1, 1));
        due("days beyond 999, too", 98, () -> late.then(0, 2, 1));
        due("days beyond 999, too", 98, () -> late.then(0, 60, 1));

        says("OPEN then (bits)");
        HorizonSeam y = of(SIXTY);
        due("behind 0", 0, () -> y.later(0, 0));
        due("behind 58", 0, () -> y.later(58, 0));
        due("behind 59", 4, () -> y.later(59, 0));
        due("behind 60", 5, () -> y.later(60, 0));
        due("behind 61", ILLEGAL, () -> y.later(61, 0));
        due("behind -1", ILLEGAL, () -> y.later(-1, 0));
        due("all of 12", 4095, () -> of(times("stretch 0 1 0;", 12) + "frays 1;").later(1, 0));
        due("the last of 12", 2048, () -> of(times("stretch 0 2 0;", 11) + "stretch 0 1 0;frays 1;").later(1, 0));
        due("open now, mended then", 0, () -> of("stretch 0 0 0;woman 0 0 1;week 1;" + STILL).later(1, 0));
    }

    private static void opens() {
        says("OPENS: behind how many DAYS (0 to 60) a STRETCH is OPEN first; none");
        HorizonSeam x = of(SIXTY);
        due("59", 59, () -> x.opens(2));
        due("60", 60, () -> x.opens(0));
        due("61: none", NONE, () -> x.opens(1));
        x.days(1);
        due("60, a day behind", 60, () -> x.opens(1));
        due("now", 0, () -> of("stretch 0 0 0;").opens(0));
        due("now, though it is mended then", 0, () -> of("stretch 0 0 0;woman 0 0 1;week 1;" + STILL).opens(0));
        due("behind 1", 1, () -> of("stretch 0 1 0;frays 1;").opens(0));
        due("the first time of two", 2, () -> of("stretch 0 2 0;woman 0 0 9;week 3;pulls 0;frays 1;").opens(0));
        due("never", NONE, () -> new HorizonSeam().opens(0));
    }

    private static void first() {
        says("FIRST: the STRETCH that OPENS first of all that aren't OPEN now (within 60 DAYS; of like ones the least); none");
        due("of like ones", 1, () -> of("stretch 0 9 0;stretch 0 8 0;stretch 0 8 0;frays 1;pulls 0;").first());
        due("of all alike", 0, () -> of(times("stretch 0 8 0;", 12) + "frays 1;pulls 0;").first());
        due("the last one", 11, () -> of(times("stretch 0 9 0;", 11) + "stretch 0 8 0;frays 1;pulls 0;").first());
        due("behind 60", 1, () -> of("stretch 0 61 0;stretch 0 60 0;stretch 0 61 0;frays 1;pulls 0;").first());
        due("behind 61: none", NONE, () -> of(times("stretch 0 61 0;", 3) + "frays 1;pulls 0;").first());
        due("all are open now", NONE, () -> of(ALL_OPEN).first());
        due("all are open now, though one is mended and opens again", NONE,
                () -> of(ALL_OPEN + "woman 0 0 1;week 1;frays 9;pulls 0;").first());
        // 0 is open now, is mended on day 1, and opens again on day 2; 1 opens on day 9.
        due("not what is open now and opens again", 1,
                () -> of("stretch 0 0 0;stretch 0 27 0;stretch 0 99 0;woman 0 0 1;week 1;frays 3;pulls 0;").first());
        HorizonSeam x = of("stretch 0 9 0;stretch 0 8 0;stretch 0 7 0;frays 1;pulls 0;");
        due("by the days, not by the number", 2, () -> x.first());
        x.tear(0, 3);
        due("from now on", 0, () -> x.first());
    }

    private static void tightestAndBalance() {
        says("TIGHTEST behind so many DAYS (0 to 60): that with most STRAIN (of like ones the least)");
        due("of like ones", 1, () -> of("stretch 4 9 0;stretch 5 9 0;stretch 5 9 0;").later(0, 1));
        due("of all alike", 0, () -> of(times("stretch 5 9 0;", 12)).later(0, 1));
        due("the last one", 11, () -> of(times("stretch 5 9 0;", 11) + "stretch 6 9 0;").later(0, 1));
        due("an open one, too", 2, () -> of("stretch 5 9 0;stretch 6 9 0;stretch 7 0 0;").later(0, 1));
        HorizonSeam x = of("stretch 30 99 0;stretch 0 99 1;stretch 1 99 2;frays 0;pulls stitch=1;");
        due("behind 29", 0, () -> x.later(29, 1));
        due("behind 30, of like ones", 0, () -> x.later(30, 1));
        due("behind 31", 1, () -> x.later(31, 1));
        due("behind 60", 1, () -> x.later(60, 1));
        due("behind 61", ILLEGAL, () -> x.later(61, 1));
        due("behind -1", ILLEGAL, () -> x.later(-1, 1));

        says("BALANCE: by how much STRAIN of the tightest is more than of the loosest one, behind so many DAYS (0 to 60)");
        due("now", 30, () -> x.later(0, 2));
        due("behind 1", 29, () -> x.later(1, 2));
        due("behind 60", 59, () -> x.later(60, 2));
        due("behind 61", ILLEGAL, () -> x.later(61, 2));
        due("behind -1", ILLEGAL, () -> x.later(-1, 2));
        due("of all alike", 0, () -> of(times("stretch 5 9 0;", 12)).later(0, 2));
        due("0 is the loosest", 4, () -> of("stretch 5 9 0;stretch 9 9 0;stretch 6 9 0;").later(0, 2));
        due("0 is the tightest", 4, () -> of("stretch 9 9 0;stretch 5 9 0;stretch 6 9 0;").later(0, 2));
        due("of 0 and 99", 99, () -> of("stretch 5 9 0;stretch 99 9 0;stretch 0 9 0;").later(0, 2));
        due("of open ones, too", 99, () -> of("stretch 5 9 0;stretch 99 0 0;stretch 0 0 0;").later(0, 2));
        due("the last of 12", 3, () -> of(times("stretch 5 9 0;", 11) + "stretch 2 9 0;").later(0, 2));
    }

    private static void whereAndSpent() {
        says("WHERE a WOMAN is then, her THREAD");
        HorizonSeam x = of(times("stretch 0 9 0;", 12) + "woman 0 7 40;week 1;" + STILL);
        for (int days = 0; days <= 60; days++) {
            int many = days;
            due("where, behind " + days, (7 + days) % 12, () -> x.where(0, many, 0));
            due("thread, behind " + days, Math.max(0, 40 - days), () -> x.where(0, many, 1));
        }
        due("behind 61", ILLEGAL, () -> x.where(0, 61, 0));
        due("behind -1", ILLEGAL, () -> x.where(0, -1, 1));

        says("SPENT: behind how many DAYS (0 to 60) no WOMAN has THREAD first; none");
        String one = "stretch 0 9 0;week 1;woman 0 0 ";
        due("now", 0, () -> of(one + "0;").spent());
        due("behind 1", 1, () -> of(one + "1;").spent());
        due("behind 60", 60, () -> of(one + "60;").spent());
        due("behind 61: none", NONE, () -> of(one + "61;").spent());
        due("the last of them", 9, () -> of(one + "2;woman 0 0 9;woman 0 0 0;").spent());
        due("on a Thursday alone", 18, () -> of("stretch 0 9 0;week 9;woman 0 0 2;").spent());
        due("60 by a week of 6", 60, () -> of("stretch 0 9 0;week 6;woman 0 0 10;").spent());
        due("63 by a week of 7: none", NONE, () -> of("stretch 0 9 0;woman 0 0 9;").spent());
        due("without WOMEN", 0, () -> new HorizonSeam().spent());
        HorizonSeam y = of(one + "9;");
        due("behind 9", 9, () -> y.spent());
        y.thread(0, 8);
        due("from now on", 17, () -> y.spent());
    }

    private static void toHold() {
        says("TO HOLD: by how much SEAM must be more now (0 to 99; 99 at most)");
        HorizonSeam x = of("stretch 0 1 0;stretch 0 0 0;stretch 0 99 0;pulls 0;frays 2*(stitch=0)+(stitch=1);");
        due("1 day", 2, () -> x.toHold(0, 1));
        due("of an open one", 3, () -> x.toHold(1, 1));
        due("none more", 0, () -> x.toHold(2, 1));
        due("49 days, by 99 in all", 98, () -> x.toHold(0, 49));
        due("50 days: 99 isn't enough", NONE, () -> x.toHold(0, 50));
        due("of an open one 99", 99, () -> x.toHold(1, 49));
        due("of an open one, 50 days", NONE, () -> x.toHold(1, 50));
        due("of a full one", 0, () -> x.toHold(2, 49));
        due("of a full one, 50 days", NONE, () -> x.toHold(2, 50));
        due("by 0, as it is mended by the women", 0, () -> of("stretch 0 3 0;woman 9 0 9;week 1;pulls 0;frays 2;").toHold(0, 9));

        says("TO HOLD: so that it isn't OPEN behind any of so many DAYS (1 to 60)");
        x.stitch(0, 1);
        due("60 days", 60, () -> x.toHold(0, 60));
        due("59 days", 59, () -> x.toHold(0, 59));
        due("61 days", ILLEGAL, () -> x.toHold(0, 61));
        due("0 days", ILLEGAL, () -> x.toHold(0, 0));
        due("-1 days", ILLEGAL, () -> x.toHold(0, -1));
        due("nothing changes", 1, () -> x.stretch(0, 1));
        // Open behind 1 day, and mended on the second: not behind any, so it must be more.
        due("behind any of them, not the last one alone", 1,
                () -> of("stretch 0 1 0;woman 9 0 9;week 2;pulls 0;frays 1;").toHold(0, 2));
        due("behind 0 days is none of them", 0, () -> of("stretch 0 0 0;woman 0 0 9;week 1;" + STILL).toHold(0, 1));

        says("TO HOLD: all else as it is");
        // What opens beside it gives it strain, whatever its own seam is.
        due("by what opens beside it", 35,
                () -> of("stretch 0 1 0;stretch 90 1 0;stretch 0 99 0;pulls 0;frays (strain=90)+5*(strain=45);").toHold(0, 8));
        due("by a rule that likes 8 alone", 3, () -> of("stretch 0 5 0;pulls 0;frays 20*(not seam=8);").toHold(0, 9));
        due("a rule that likes none", NONE, () -> of("stretch 0 5 0;pulls 0;frays 20;").toHold(0, 9));
    }

    private static void toSend() {
        says("TO SEND a WOMAN: the STRETCH at which fewest would be OPEN behind so many DAYS (1 to 60; of like ones the least)");
        String ring = "stretch 0 9 0;stretch 0 9 0;stretch 0 1 0;stretch 0 1 0;woman 9 0 99;pulls 0;";
        HorizonSeam x = of(ring + "week 1;frays (day=0)*(seam=1);");
        due("1 day, of like ones", 2, () -> x.toSend(0, 1, 0));
        due("1 day, how many", 1, () -> x.toSend(0, 1, 1));
        due("2 days", 2, () -> x.toSend(0, 2, 0));
        due("2 days, how many", 0, () -> x.toSend(0, 2, 1));
        due("60 days, all alike", 0, () -> x.toSend(0, 60, 0));
        due("60 days, how many", 0, () -> x.toSend(0, 60, 1));
        due("0 days", ILLEGAL, () -> x.toSend(0, 0, 0));
        due("61 days", ILLEGAL, () -> x.toSend(0, 61, 1));
        due("she stays", 0, () -> x.woman(0, 1));
        due("all open", 3, () -> of(ALL_OPEN + "woman 0 1 0;").toSend(0, 60, 1));
        due("all open, of like ones", 0, () -> of(ALL_OPEN + "woman 0 1 0;").toSend(0, 60, 0));
        due("all of 12 open", 12, () -> of(times("stretch 0 0 0;", 12) + "woman 0 1 0;").toSend(0, 1, 1));
        HorizonSeam harm = of("stretch 0 9 0;stretch 0 9 0;stretch 0 9 0;woman 0 1 0;pulls 0;frays women*9;");
        due("wherever she is, one opens: she must be somewhere", 1, () -> harm.toSend(0, 1, 1));
        due("wherever she is, one opens: of like ones", 0, () -> harm.toSend(0, 1, 0));
        due("none open, of like ones", 0, () -> of("stretch 0 9 0;stretch 0 9 0;woman 0 1 9;" + STILL).toSend(0, 1, 0));
        HorizonSeam y = of(times("stretch 0 9 0;", 11) + "stretch 0 0 0;woman 0 3 1;week 1;" + STILL);
        due("the last one", 11, () -> y.toSend(0, 1, 0));
        due("the last one, how many", 0, () -> y.toSend(0, 1, 1));
        due("where she is now", 3, () -> of("stretch 0 9 0;stretch 0 9 0;stretch 0 9 0;stretch 0 0 0;woman 0 3 1;week 1;"
                + STILL).toSend(0, 1, 0));
    }

    private static void bestStitch() {
        says("BEST STITCH: that by which it would have most SEAM behind so many DAYS (1 to 60; of like ones the least)");
        HorizonSeam x = of("stretch 8 50 2;stretch 9 50 2;stretch 27 50 0;stretch 18 50 1;pulls 0;");
        due("all alike", 0, () -> x.bestStitch(0, 1));
        due("all alike for long", 0, () -> of("stretch 8 50 2;pulls 0;").bestStitch(0, 60));
        due("back and herringbone alike", 1, () -> x.bestStitch(1, 1));
        due("of 27: 3, 1, 1", 1, () -> x.bestStitch(2, 1));
        due("of 18: 2, 1, 0", 2, () -> x.bestStitch(3, 1));
        due("0 days", ILLEGAL, () -> x.bestStitch(0, 0));
        due("61 days", ILLEGAL, () -> x.bestStitch(0, 61));
        due("nothing changes", 2, () -> x.stretch(0, 2));
        due("there is no fourth one", 0, () -> of("stretch 0 50 1;pulls 0;frays 5*(stitch<3);").bestStitch(0, 1));
        due("open by any: all alike", 0, () -> of("stretch 99 1 2;pulls 0;frays 1;").bestStitch(0, 60));
        due("an open one: all alike", 0, () -> of("stretch 99 0 2;").bestStitch(0, 1));
        HorizonSeam y = of("stretch 0 99 0;pulls 0;frays (not stitch=1)*(day=59);");
        due("59 days: all alike", 0, () -> y.bestStitch(0, 59));
        due("60 days", 1, () -> y.bestStitch(0, 60));
    }

    private static void sent() {
        says("SENT: of some STRETCHES (at most 6, as bits)");
        String ring = times("stretch 0 9 0;", 12);
        HorizonSeam x = of(ring + "woman 0 0 0;woman 0 2 0;woman 0 4 0;woman 0 6 0;woman 0 8 0;woman 0 10 0;");
        due("none of them", 0, () -> x.sent(0, NONE));
        due("6, each where one is", 0, () -> x.sent(0b010101010101, NONE));
        due("6, each beside one", 6, () -> x.sent(0b101010101010, NONE));
        for (int w = 0; w < 6; w++) {
            int woman = w;
            due("who goes to " + 2 * w, woman, () -> x.sent(0b010101010101, 2 * woman));
            due("who goes to " + (2 * w + 1) + ", of like rows the first", woman, () -> x.sent(0b101010101010, 2 * woman + 1));
        }
        due("7", ILLEGAL, () -> x.sent(0b111010101010, NONE));
        due("12", ILLEGAL, () -> x.sent(4095, NONE));
        due("7, one of them", ILLEGAL, () -> x.sent(127, 3));
        due("no bit of a stretch", ILLEGAL, () -> x.sent(4096, NONE));
        due("no bit of a stretch, beside others", ILLEGAL, () -> x.sent(4097, 0));
        due("the last one's bit", 1, () -> x.sent(2048, NONE));
        due("the sign's bit", ILLEGAL, () -> x.sent(Integer.MIN_VALUE, NONE));
        due("all bits", ILLEGAL, () -> x.sent(-1, NONE));
        due("of 3 the 4th bit", ILLEGAL, () -> new HorizonSeam().sent(8, NONE));
        due("of 3 the 3rd bit", FEWER_WOMEN, () -> new HorizonSeam().sent(4, NONE));

        says("SENT: none, if there are fewer WOMEN");
        due("none of none", 0, () -> new HorizonSeam().sent(0, NONE));
        due("1 of none", FEWER_WOMEN, () -> new HorizonSeam().sent(1, NONE));
        due("1 of none, who", FEWER_WOMEN, () -> new HorizonSeam().sent(1, 0));
        HorizonSeam two = of(ring + "woman 0 0 0;woman 0 0 0;");
        due("2 of 2", 11, () -> two.sent(64 | 32, NONE));
        due("2 of 2, who", 1, () -> two.sent(64 | 32, 6));
        due("3 of 2", FEWER_WOMEN, () -> two.sent(7, NONE));
        due("3 of 2, who", FEWER_WOMEN, () -> two.sent(7, 2));
        due("6 of 2", FEWER_WOMEN, () -> two.sent(63, NONE));
        due("7 of 2", ILLEGAL, () -> two.sent(127, NONE));
    }

    private static void sentInTheShortWay() {
        says("SENT: by fewest steps (the shorter way round) all together");
        String ring = times("stretch 0 9 0;", 12);
        HorizonSeam x = of(ring + "woman 0 0 0;");
        for (int i = 0; i < 12; i++) {
            int to = i;
            due("to " + i, Math.min(i, 12 - i), () -> x.sent(1 << to, NONE));
            due("who goes to " + i, 0, () -> x.sent(1 << to, to));
        }
        // The nearest one to 0 is woman 0; but then woman 1 has 6 steps to go to 4.
        HorizonSeam y = of(ring + "woman 0 1 0;woman 0 10 0;");
        due("all together", 5, () -> y.sent(1 | 16, NONE));
        due("not each by herself: to 0", 1, () -> y.sent(1 | 16, 0));
        due("not each by herself: to 4", 0, () -> y.sent(1 | 16, 4));

        says("SENT: no two one WOMAN");
        // Woman 0 goes to 0, though she is at 1; so she can't go to 1, too.
        HorizonSeam once = of(ring + "woman 0 1 0;woman 0 2 0;");
        due("to 0", 0, () -> once.sent(3, 0));
        due("to 1", 1, () -> once.sent(3, 1));

        says("SENT: of like ones the first row (by STRETCHES)");
        HorizonSeam like = of(ring + "woman 0 5 0;woman 0 5 0;woman 0 5 0;");
        due("the first one to the first", 0, () -> like.sent(8 | 128 | 256, 3));
        due("the second one to the second", 1, () -> like.sent(8 | 128 | 256, 7));
        due("the third one to the third", 2, () -> like.sent(8 | 128 | 256, 8));
        // 0 to 0 and 1 to 2 are 4 steps, 1 to 0 and 0 to 2 are 2.
        HorizonSeam cross = of(ring + "woman 0 3 0;woman 0 1 0;");
        due("steps", 2, () -> cross.sent(1 | 4, NONE));
        due("fewest steps ahead of the first row", 1, () -> cross.sent(1 | 4, 0));
        due("fewest steps ahead of the first row", 0, () -> cross.sent(1 | 4, 2));
        HorizonSeam chain = of(ring + "woman 0 0 0;woman 0 1 0;");
        // (0 to 2, 1 to 3) and (1 to 2, 0 to 3) are 4 steps each.
        due("steps", 4, () -> chain.sent(4 | 8, NONE));
        due("of like rows the first", 0, () -> chain.sent(4 | 8, 2));
        due("of like rows the first", 1, () -> chain.sent(4 | 8, 3));
    }

    private static void closed() {
        says("CLOSED: the longest row of STRETCHES side by side that aren't OPEN now: how long (all: as many as there are)");
        due("all of 3", 3, () -> new HorizonSeam().closed(0));
        due("all of 12", 12, () -> of(times("stretch 0 1 0;", 12)).closed(0));
        due("all but one of 12", 11, () -> of(times("stretch 0 1 0;", 11) + "stretch 0 0 0;").closed(0));
        due("none", 0, () -> of(ALL_OPEN).closed(0));
        due("one", 1, () -> of("stretch 0 0 0;stretch 0 1 0;stretch 0 0 0;").closed(0));

        says("CLOSED: its first one (of like ones the least; going on by number; if all are so: 0); none");
        due("all", 0, () -> of(times("stretch 0 1 0;", 12)).closed(1));
        due("none", NONE, () -> of(ALL_OPEN).closed(1));
        due("one", 1, () -> of("stretch 0 0 0;stretch 0 1 0;stretch 0 0 0;").closed(1));
        due("all but 0", 1, () -> of("stretch 0 0 0;stretch 0 1 0;stretch 0 1 0;").closed(1));
        due("all but 1: from 2 round the end", 2, () -> of("stretch 0 1 0;stretch 0 0 0;stretch 0 1 0;").closed(1));
        due("all but 2", 0, () -> of("stretch 0 1 0;stretch 0 1 0;stretch 0 0 0;").closed(1));
        String closed = "stretch 0 1 0;";
        String open = "stretch 0 0 0;";
        due("of like ones", 1, () -> of(open + closed + closed + open + closed + closed).closed(1));
        due("of like ones, one goes round the end", 2, () -> of(closed + open + closed + closed + open + closed).closed(1));
        HorizonSeam round = of(closed + closed + open + closed + closed + open + closed);
        due("the longer one goes round the end", 6, () -> round.closed(1));
        due("how long", 3, () -> round.closed(0));
    }

    private static void tight() {
        says("A TIGHT ROW of so many (1 to 12) side by side: none, if there are fewer");
        for (int many = 1; many <= 12; many++) {
            int row = many;
            due("of 12 a row of " + many, 5 * row, () -> of(times("stretch 5 9 0;", 12)).tight(row, 0));
            due("of 12 the first one", 0, () -> of(times("stretch 5 9 0;", 12)).tight(row, 1));
            due("of 3 a row of " + many, row > 3 ? NONE : 0, () -> new HorizonSeam().tight(row, 0));
            due("of 3 the first one", row > 3 ? NONE : 0, () -> new HorizonSeam().tight(row, 1));
        }
        due("0", ILLEGAL, () -> new HorizonSeam().tight(0, 0));
        due("-1", ILLEGAL, () -> new HorizonSeam().tight(-1, 1));
        due("13", ILLEGAL, () -> new HorizonSeam().tight(13, 0));
        due("13 of 12", ILLEGAL, () -> of(times("stretch 5 9 0;", 12)).tight(13, 1));

        says("A TIGHT ROW: that with most STRAIN together: how much; the first one (of like ones the least)");
        HorizonSeam x = of("stretch 8 9 0;stretch 1 9 0;stretch 5 9 0;stretch 4 0 0;stretch 1 9 0;stretch 1 9 0;");
        due("of 2, of like ones", 0, () -> x.tight(2, 1));
        due("of 2", 9, () -> x.tight(2, 0));
        due("of 3", 14, () -> x.tight(3, 0));
        due("of 3, the first", 0, () -> x.tight(3, 1));
        due("of 6", 20, () -> x.tight(6, 0));
        HorizonSeam round = of("stretch 8 9 0;stretch 1 9 0;stretch 5 9 0;stretch 7 0 0;");
        due("of 2 round the end", 3, () -> round.tight(2, 1));
        due("of 2 round the end", 15, () -> round.tight(2, 0));
        due("of 3 round the end", 2, () -> round.tight(3, 1));
        due("of 3 round the end", 20, () -> round.tight(3, 0));
        due("all of 99", 1188, () -> of(times("stretch 99 0 0;", 12)).tight(12, 0));
    }

    private static void readings() {
        says("READINGS of a NUMBER (0 to 999999999, as it is written without noughts ahead)");
        HorizonSeam x = of("knots 0 9 99 999 9999 00 1;");
        due("0", 1, () -> x.readings(0, 0));
        due("0, shortest", 1, () -> x.readings(0, 1));
        due("999999999", 208, () -> x.readings(999999999, 0));
        due("999999999, shortest", 3, () -> x.readings(999999999, 1));
        due("1000000000", ILLEGAL, () -> x.readings(1000000000, 0));
        due("-1", ILLEGAL, () -> x.readings(-1, 1));
        due("100000000: 1, and 8 noughts by 0 and 00", 34, () -> x.readings(100000000, 0));
        due("100000000, shortest", 5, () -> x.readings(100000000, 1));
        due("9", 1, () -> x.readings(9, 0));
        due("10", 1, () -> x.readings(10, 0));
        due("a word with noughts ahead isn't the number", 0, () -> of("knots 05;").readings(5, 0));
        due("but is within one", 1, () -> of("knots 05 1;").readings(105, 0));

        says("READINGS: in how many ways its digits are WORDS one behind the other; SHORTEST; none");
        due("without WORDS", 0, () -> new HorizonSeam().readings(0, 0));
        due("without WORDS", NONE, () -> new HorizonSeam().readings(0, 1));
        HorizonSeam y = of("knots 12 3 123;");
        due("123", 2, () -> y.readings(123, 0));
        due("123, shortest", 1, () -> y.readings(123, 1));
        due("12", 1, () -> y.readings(12, 0));
        due("1: a word is longer", 0, () -> y.readings(1, 0));
        due("1: none", NONE, () -> y.readings(1, 1));
        due("122: the last digit is none", 0, () -> y.readings(122, 0));
        due("122: none", NONE, () -> y.readings(122, 1));
        due("212: the first digit is none", 0, () -> y.readings(212, 0));
        due("212: none", NONE, () -> y.readings(212, 1));
        HorizonSeam nine = of("knots 9;");
        int number = 999999999;
        for (int digits = 9; digits >= 1; digits--) {
            int many = digits;
            int nines = number;
            due("the one way of " + nines, 1, () -> nine.readings(nines, 0));
            due("words of " + nines, many, () -> nine.readings(nines, 1));
            due("not " + (nines - 1), 0, () -> nine.readings(nines - 1, 0));
            due("not " + (nines - 1), NONE, () -> nine.readings(nines - 1, 1));
            number /= 10;
        }
        HorizonSeam ten = of("knots 1 0;");
        number = 1;
        for (int digits = 1; digits <= 9; digits++) {
            int many = digits;
            int noughts = number;
            due("the one way of " + noughts, 1, () -> ten.readings(noughts, 0));
            due("words of " + noughts, many, () -> ten.readings(noughts, 1));
            number *= 10;
        }
    }

    // ---- 4.

    private static void seen() {
        says("SEEN (at most 8): SEAM (0 to 99) of a STRETCH behind so many DAYS (0 to 20)");
        HorizonSeam x = of("stretch 0 99 0;stretch 0 21 0;stretch 0 0 0;pulls 0;frays 1;");
        due("0 days", 1, () -> x.see(0, 0, 99));
        due("20 days", 2, () -> x.see(0, 20, 79));
        due("seam 0", 3, () -> x.see(2, 20, 0));
        due("seam 99", 4, () -> x.see(0, 0, 99));
        due("the same again", 5, () -> x.see(0, 0, 99));
        due("so it is without", 1, () -> x.torn(2));
        due("-1 days", NONE, () -> x.see(0, -1, 99));
        due("21 days", NONE, () -> x.see(0, 21, 99));
        due("seam -1", NONE, () -> x.see(0, 0, -1));
        due("seam 100", NONE, () -> x.see(0, 0, 100));
        due("those aren't seen", 5, () -> x.count(10));
        x.see(1, 20, 1);
        x.see(1, 20, 1);
        due("the 8th", 8, () -> x.see(1, 20, 1));
        due("so it is without", 1, () -> x.torn(2));
        due("the 9th", NONE, () -> x.see(1, 20, 2));
        due("is none", 1, () -> x.torn(2));
        due("there are 8", 8, () -> x.count(10));
        x.forget();
        due("none", 0, () -> x.count(10));
        x.see(1, 20, 2);
        due("all of it counts", 0, () -> x.torn(2));
    }

    private static void torn() {
        says("TORN: STRETCHES and how much (1 to 50): how many; the first (100 by the STRETCH, and how much)");
        int[][] cases = {{98, 1, 1}, {50, 1, 49}, {49, 1, 50}, {48, 0, NONE}, {0, 0, NONE}, {99, 550, 101}};
        for (int[] c : cases) {
            HorizonSeam x = of("stretch 0 99 0;" + times("stretch 0 60 0;", 11) + STILL);
            x.see(0, 0, c[0]);
            due("99 becomes " + c[0] + ": how many", c[1], () -> x.torn(0));
            due("99 becomes " + c[0] + ": the first", c[2], () -> x.torn(1));
            due("99 becomes " + c[0] + ": without", bit(c[0] == 99), () -> x.torn(2));
        }
        int[][] opens = {{51, 0, NONE}, {50, 1, 1150}, {49, 2, 1149}, {2, 49, 1102}, {1, 50, 1101}};
        for (int[] c : opens) {
            HorizonSeam x = of(times("stretch 0 60 0;", 11) + "stretch 0 " + c[0] + " 0;" + STILL);
            x.see(11, 20, 0);
            due(c[0] + " becomes 0: how many", c[1], () -> x.torn(0));
            due(c[0] + " becomes 0: the first", c[2], () -> x.torn(1));
        }
        HorizonSeam y = of("stretch 0 0 0;stretch 0 9 0;stretch 0 9 0;" + STILL);
        due("what is open can't be torn", 100, () -> y.torn(0));
        due("the first of those that can", 101, () -> y.torn(1));

        says("TORN: all SEEN would be so; whether it is so without (1)");
        HorizonSeam z = of("stretch 0 60 0;stretch 0 60 0;stretch 0 60 0;pulls 0;frays 1;");
        z.see(0, 20, 40);
        due("without", 1, () -> z.torn(2));
        due("by those that tear others", 100, () -> z.torn(0));
        z.see(1, 0, 57);
        due("by one", 1, () -> z.torn(0));
        due("which", 103, () -> z.torn(1));
        due("not without", 0, () -> z.torn(2));
        z.see(2, 1, 58);
        due("by none", 0, () -> z.torn(0));
        due("by none: the first", NONE, () -> z.torn(1));
        z.forget();
        due("nothing is seen", 150, () -> z.torn(0));
        due("nothing is seen: the first", 1, () -> z.torn(1));
        due("nothing is seen: without", 1, () -> z.torn(2));
        due("nothing is torn by that", 60, () -> z.stretch(0, 1));
    }

    private static void look() {
        says("LOOK NEXT: the STRETCH of which SEAM behind 5 DAYS would be most unlike (of like ones the least): how many; none");
        HorizonSeam x = of("stretch 0 60 0;stretch 0 70 0;stretch 0 70 0;" + STILL);
        due("of like ones", 0, () -> x.look(0));
        due("how many", 51, () -> x.look(1));
        x.see(0, 0, 60);
        due("of like ones of the rest", 1, () -> x.look(0));
        x.see(1, 0, 70);
        due("the last one", 2, () -> x.look(0));
        due("by its tears alone", 50, () -> x.look(1));
        x.see(2, 0, 69);
        due("by one: all are alike", 0, () -> x.look(0));
        due("by one", 1, () -> x.look(1));
        x.see(2, 0, 70);
        due("without any", NONE, () -> x.look(0));
        due("without any", 0, () -> x.look(1));
        due("all open", NONE, () -> of(ALL_OPEN).look(0));
        due("all open", 0, () -> of(ALL_OPEN).look(1));
        // The day 4 makes them alike, the day 5 would make them unlike again.
        String same = "stretch 0 20 0;stretch 0 0 0;stretch 0 0 0;pulls 0;frays ";
        due("behind 5 days: all 0", 1, () -> of(same + "(day=4)*20;").look(1));
        due("not what is behind 6", 20, () -> of(same + "(day=5)*20;").look(1));
        // Seams of 49 to 98 behind no day; those from 64 on are counted, too.
        due("those above 63", 50, () -> of("stretch 0 99 0;stretch 0 0 0;stretch 0 0 0;" + STILL).look(1));
        due("63 and 64 are two", 2, () -> {
            HorizonSeam y = of("stretch 0 65 0;stretch 0 1 0;stretch 0 0 0;pulls 0;frays (64<seam)+(seam<64)*20;");
            return y.look(1);
        });
        HorizonSeam last = of(times("stretch 0 0 0;", 11) + "stretch 0 3 0;" + STILL);
        due("the last of 12", 11, () -> last.look(0));
        due("2, 1, 0", 3, () -> last.look(1));
    }

    private static int power(int base, int many) {
        return many == 0 ? 1 : base * power(base, many - 1);
    }

    private static void gales() {
        says("GALES: on each of so many DAYS (1 to 5) with so many tenths (0 to 10): as so many of 10 to the power of these DAYS");
        // It opens behind any gale at once.
        HorizonSeam x = of("stretch 0 20 0;stretch 0 99 0;stretch 0 0 0;pulls 0;frays strain*20*(seam=20);");
        for (int days = 1; days <= 5; days++) {
            for (int tenths = 0; tenths <= 10; tenths++) {
                int many = days;
                int likely = tenths;
                due("gales(" + days + ", " + tenths + ")", power(10, days) - power(10 - tenths, days),
                        () -> x.gales(many, likely));
            }
        }
        due("0 days", ILLEGAL, () -> x.gales(0, 5));
        due("6 days", ILLEGAL, () -> x.gales(6, 5));
        due("-1 tenths", ILLEGAL, () -> x.gales(1, -1));
        due("11 tenths", ILLEGAL, () -> x.gales(1, 11));

        says("GALES: all STRETCHES that aren't OPEN have 15 STRAIN more (99 at most)");
        due("15", 10, () -> of("stretch 0 9 0;pulls 0;frays (strain=15)*9;").gales(1, 10));
        due("84 becomes 99", 10, () -> of("stretch 84 9 0;pulls 0;frays (strain=99)*9;").gales(1, 10));
        due("83 becomes 98", 10, () -> of("stretch 83 9 0;pulls 0;frays (strain=98)*9;").gales(1, 10));
        due("85 becomes 99", 10, () -> of("stretch 85 9 0;pulls 0;frays (strain=99)*9;").gales(1, 10));
        due("open ones have none", 10,
                () -> of("stretch 3 0 0;stretch 0 9 0;stretch 4 0 0;pulls 0;frays (beside=7)*(strain=15)*9;").gales(1, 10));
        due("ahead of the day: PULLS knows of it", 10, () -> of("stretch 0 9 0;pulls strain=15;frays (strain=16)*9;").gales(1, 10));

        says("GALES: how likely some STRETCH that isn't OPEN now is OPEN behind them");
        due("all are open now", 0, () -> of(ALL_OPEN).gales(5, 10));
        due("without a gale, too", 10, () -> of("stretch 0 9 0;pulls 0;frays 9;").gales(1, 0));
        due("without a gale, too", 100000, () -> of("stretch 0 45 0;pulls 0;frays 9;").gales(5, 3));
        due("not what is open now, is mended and opens again", 0,
                () -> of("stretch 0 0 0;stretch 0 99 0;stretch 0 99 0;woman 0 0 1;week 1;pulls 0;frays 3;").gales(2, 5));
        due("not what opens and is mended", 0,
                () -> of("stretch 0 9 0;woman 0 0 1;week 2;pulls 0;frays (day=0)*9;").gales(2, 5));
        HorizonSeam second = of("stretch 0 9 0;pulls 0;frays (day=1)*9;");
        due("behind 1 day, not behind 2", 0, () -> second.gales(1, 10));
        due("behind 2 days", 100, () -> second.gales(2, 10));
        due("nothing changes", 20, () -> x.stretch(0, 1));
    }

    private static void game() {
        says("A GAME: each gains SEAM of her own STRETCH behind 5 DAYS, by 10, cut down, and loses 1, if she went");
        String ring = "stretch 0 20 0;stretch 0 20 0;stretch 0 20 0;stretch 0 20 0;";
        // Alone, apart: staying gives her 21 more, going gives her nothing.
        HorizonSeam apart = of(ring + "woman 9 0 9;woman 9 2 9;" + STILL);
        due("apart: one couple", 1, () -> apart.game(0, 1, 0));
        due("apart: both stay", 0, () -> apart.game(0, 1, 1));
        // Neither has thread: 2 if she stays, 1 if she went.
        HorizonSeam bare = of(ring + "woman 9 0 0;woman 9 2 0;" + STILL);
        due("without thread: one couple", 1, () -> bare.game(0, 1, 0));
        due("without thread: both stay", 0, () -> bare.game(0, 1, 1));
        // Her own frays by 10 if she is at it: 20 less 10, by 10, or 20 by 10 less 1. Alike.
        HorizonSeam like = of(ring + "woman 0 0 0;woman 0 2 0;pulls 0;frays (day=0)*women*10;");
        due("alike: all four rest", 4, () -> like.game(0, 1, 0));
        due("alike: the first", 0, () -> like.game(0, 1, 1));
        // By 11, it is 0 against 1: both go.
        HorizonSeam away = of(ring + "woman 0 0 0;woman 0 2 0;pulls 0;frays (day=0)*women*11;");
        due("both go: one couple", 1, () -> away.game(0, 1, 0));
        due("both go", 11, () -> away.game(0, 1, 1));
        // If she stays it is 19, that is 1, if she went it is 20 and a step: 1 as well. The other one stays.
        HorizonSeam cut = of("stretch 0 20 0;stretch 0 20 0;stretch 0 25 0;stretch 0 20 0;woman 0 0 0;woman 0 2 0;pulls 0;"
                + "frays (day=0)*women;");
        due("cut down: 19 is 1", 2, () -> cut.game(0, 1, 0));
        // What frays on the fifth day counts, what would on the sixth doesn't.
        HorizonSeam fifth = of(ring + "woman 0 0 0;woman 0 2 0;week 9;pulls 0;frays (day=4)*women*11;");
        due("the fifth day: both go", 11, () -> fifth.game(0, 1, 1));
        HorizonSeam sixth = of(ring + "woman 0 0 0;woman 0 2 0;week 9;pulls 0;frays (day=5)*women*11;");
        due("the sixth day: both stay", 0, () -> sixth.game(0, 1, 1));

        says("A GAME: each MENDS now where she is (0), or goes on to the STRETCH after hers, and MENDS there (1)");
        // She would be away, as 20 less 11 is 9; but by her own mending it is 30.
        HorizonSeam mends = of(ring + "woman 9 0 1;woman 0 2 0;pulls 0;frays (day=0)*women*11;");
        due("she mends and stays, the other one goes", 1, () -> mends.game(0, 1, 1));
        due("one couple", 1, () -> mends.game(0, 1, 0));
        // The other one goes on from the last one to 0 and mends by 3: 13, 3 more, less 3 for each who is there. It is 10
        // if the first one stays, and 13 and a step if she went. Without that, both would be alike.
        HorizonSeam there = of("stretch 0 13 0;stretch 0 20 0;stretch 0 20 0;stretch 0 20 1;woman 0 0 0;woman 0 3 1;week 9;"
                + "pulls 0;frays (day=0)*women*((stitch=0)*3+(stitch=1)*20);");
        due("she mends there: one couple", 1, () -> there.game(0, 1, 0));
        due("she mends there", 1, () -> there.game(0, 1, 1));
        due("nothing changes: thread", 1, () -> mends.woman(0, 2));
        due("nothing changes: seam", 20, () -> mends.stretch(0, 1));
        due("nothing changes: the day", 0, () -> mends.count(4));

        says("A GAME: A couple RESTS, if neither gains more by the other choice; none");
        // Stretch 1 frays if one woman is at it, not if none or both are; 0 if she is at it and none is at 1. So 1 would be
        // where 0 is, and 0 would not be where 1 isn't.
        HorizonSeam none = of("stretch 0 90 2;stretch 0 90 1;stretch 0 90 0;stretch 0 90 0;woman 0 0 0;woman 0 1 0;week 9;"
                + "pulls (stitch=1)*women*(day=0);frays 10*(women=1)*((stitch=1)+(stitch=2)*(beside=0));");
        due("no couple", 0, () -> none.game(0, 1, 0));
        due("no first one", NONE, () -> none.game(0, 1, 1));
        due("no couple, from the other side", 0, () -> none.game(1, 0, 0));
        due("no first one, from the other side", NONE, () -> none.game(1, 0, 1));

        says("A GAME: goes on to the STRETCH after hers, from the last one to 0");
        // At 2, the last one, she frays by 20 a day; at 0 she does not.
        HorizonSeam last = of("stretch 0 99 0;stretch 0 99 0;stretch 9 99 0;woman 0 2 0;woman 0 0 0;pulls 0;"
                + "frays (strain=9)*women*19;");
        due("she goes on", 10, () -> last.game(0, 1, 1));
        due("asked from the other side", 1, () -> last.game(1, 0, 1));
    }

    /** What is drawn of n by the so manieth draw, by long numbers that don't wrap where the document's wrap. */
    private static int drawn(int seed, int which, int n) {
        long state = seed & 0xFFFFFFFFL;
        for (int k = 0; k < which; k++) {
            state = (state * 1103515245L + 12345L) & 0xFFFFFFFFL;
        }
        return (int) ((state >> 16 & 0x7FFFL) % n);
    }

    private static final int[] SEEDS = {Integer.MIN_VALUE, Integer.MIN_VALUE + 1, -1000000007, -65536, -2, -1, 0, 1, 2, 3, 4, 5, 7,
        11, 42, 65535, 65536, 1103515245, 1234567890, Integer.MAX_VALUE - 1, Integer.MAX_VALUE};

    private static void years() {
        says("YEARS: A seed becomes itself times 1103515245 and 12345 (an int that wraps); a DRAW of n is its bits 16 to 30 MOD n");
        HorizonSeam x = of("stretch 0 50 0;stretch 0 60 0;stretch 0 70 0;woman 0 0 7;woman 0 0 0;pulls 0;frays strain;week 9;");
        for (int seed : SEEDS) {
            aDayOf(x, seed);
        }
        int[] met = new int[6];
        for (int seed = 100; seed < 200; seed++) {
            met[drawn(seed, 1, 6)]++;
            int s = seed;
            HorizonSeam y = of("stretch 0 50 0;stretch 0 60 0;stretch 0 70 0;woman 0 0 7;woman 0 0 0;pulls 0;frays strain;week 9;");
            aDayOf(y, s);
        }
        for (int k = 0; k < 6; k++) {
            int times = met[k];
            due("seeds that draw " + k, 1, () -> bit(times > 0));
        }
    }

    private static void aDayOf(HorizonSeam x, int seed) {
        int event = drawn(seed, 1, 6);
        int seam = event == 0 ? 180 - drawn(seed, 3, 20) - 1 : event == 1 ? 180 - 9 : 180;
        due("seam by seed " + seed, seam, () -> x.years(seed, 1, 1));
        due("thread by seed " + seed, event == 2 ? 12 : 7, () -> x.years(seed, 1, 2));
        due("open by seed " + seed, 0, () -> x.years(seed, 1, 0));
    }

    private static void yearsAtTheirBounds() {
        says("YEARS: n DAYS (0 to 60) from now on");
        HorizonSeam x = of("stretch 0 99 0;stretch 0 0 0;stretch 0 0 0;woman 0 0 0;woman 0 0 0;week 9;pulls 0;frays (day=59)*(stitch=0);");
        due("0: as it is now", 99, () -> x.years(5, 0, 1));
        due("0: open ones", 2, () -> x.years(5, 0, 0));
        due("0: thread", 0, () -> x.years(5, 0, 2));
        due("-1", ILLEGAL, () -> x.years(5, -1, 0));
        due("61", ILLEGAL, () -> x.years(5, 61, 0));
        // Of the same seed, the day 59 alone lies between 59 and 60, and what is drawn ahead of it.
        HorizonSeam y = of("stretch 0 99 0;stretch 0 99 0;stretch 0 99 0;pulls 0;frays (day=59)*20;");
        int found = 0;
        for (int seed = 0; seed < 20; seed++) {
            int s = seed;
            int before = y.years(s, 59, 1);
            int behind = y.years(s, 60, 1);
            found += bit(before - behind == 60);
        }
        int many = found;
        due("60 days go by", 1, () -> bit(many > 0));
        due("nothing changes", 297, () -> y.count(6));

        says("YEARS: a DRAW of 20 and 1; STRAIN 9 more (99 at most; an OPEN one, too); 5 THREAD (99 at most)");
        HorizonSeam full = of("stretch 91 99 0;stretch 90 99 0;stretch 89 99 0;pulls 0;frays (strain=99)*20+(strain=98)*10;");
        HorizonSeam beside = of("stretch 1 0 0;stretch 0 99 0;stretch 0 99 0;pulls 0;frays (beside=10)*20;");
        HorizonSeam opens = of("stretch 40 20 0;stretch 0 99 0;stretch 0 99 0;pulls 0;frays (strain=20)*7;");
        HorizonSeam thread = of("stretch 0 99 0;woman 0 0 97;woman 0 0 94;woman 0 0 93;" + STILL);
        int[] gets = {2, 5, 5};
        int[] loses = {20, 20, 10};
        int[] met = new int[3];
        for (int seed = 0; seed < 400; seed++) {
            int s = seed;
            int event = drawn(s, 1, 6);
            int which = drawn(s, 2, 3);
            if (event == 1) {
                met[0]++;
                due("99 at most, seed " + s, 297 - loses[which], () -> full.years(s, 1, 1));
                if (which == 0) {
                    met[1]++;
                    due("an open one, too, seed " + s, 198 - 40, () -> beside.years(s, 1, 1));
                }
            } else if (event == 2) {
                met[2]++;
                due("thread, 99 at most, seed " + s, 284 + gets[which], () -> thread.years(s, 1, 2));
            }
        }
        for (int k = 0; k < 3; k++) {
            int times = met[k];
            due("seeds of kind " + k, 1, () -> bit(times > 0));
        }
        int twenty = 0;
        for (int seed = 0; seed < 40000 && twenty == 0; seed++) {
            twenty = drawn(seed, 1, 6) == 0 && drawn(seed, 2, 3) == 0 && drawn(seed, 3, 20) == 19 ? seed : 0;
        }
        int s = twenty;
        due("there is such a seed", 1, () -> bit(s > 0));
        due("20 of 20: it opens", 1, () -> opens.years(s, 1, 0));
        due("20 of 20: it opens as told", 198 - 14, () -> opens.years(s, 1, 1));
    }

    private static void yearsWithoutWomen() {
        says("YEARS: Without WOMEN nothing is drawn behind 2");
        HorizonSeam x = of(times("stretch 0 90 0;", 3) + STILL);
        HorizonSeam y = of(times("stretch 0 90 0;", 3) + "woman 0 0 0;" + STILL);
        int met = 0;
        for (int seed = 0; seed < 2000; seed++) {
            int s = seed;
            if (drawn(s, 1, 6) == 2 && drawn(s, 2, 6) == 0 && drawn(s, 3, 6) != 0 && met < 20) {
                met++;
                due("without, seed " + s, 270 - drawn(s, 4, 20) - 1, () -> x.years(s, 2, 1));
                due("without, thread, seed " + s, 0, () -> x.years(s, 2, 2));
                due("with one, seed " + s, 270, () -> y.years(s, 2, 1));
            }
        }
        int many = met;
        due("there are such seeds", 1, () -> bit(many > 0));

        says("YEARS: 3, 4, 5: nothing comes ahead of the DAY, and nothing is drawn");
        met = 0;
        for (int seed = 0; seed < 2000; seed++) {
            int s = seed;
            if (drawn(s, 1, 6) > 2 && drawn(s, 2, 6) == 0 && met < 20) {
                met++;
                due("seed " + s, 270 - drawn(s, 4, 20) - 1, () -> x.years(s, 2, 1));
            }
        }
    }

    // ---- 5.

    private static void steady() {
        says("STEADY: behind how many DAYS (1 to 60) STRAIN and SEAM of all are as they were behind one DAY fewer, first; none");
        String rest = "stretch 0 0 0;stretch 0 0 0;pulls 0;frays 1;";
        due("1", 1, () -> of("stretch 0 0 0;" + rest).steady());
        due("2", 2, () -> of("stretch 0 1 0;" + rest).steady());
        due("60", 60, () -> of("stretch 0 59 0;" + rest).steady());
        due("61: none", NONE, () -> of("stretch 0 60 0;" + rest).steady());
        due("strain counts", 4, () -> of("frays 0;pulls day<3;").steady());
        due("strain of the last one counts", 10, () -> of(times("stretch 0 9 0;", 11) + "stretch 9 9 0;frays 0;pulls 0-1;").steady());
        due("seam of the last one counts", 10, () -> of(times("stretch 0 0 0;", 11) + "stretch 0 9 0;frays 1;pulls 0;").steady());
        due("the first time, though it moves behind that", 1, () -> of("pulls 0;frays day=1;").steady());
        due("where WOMEN are counts for nothing", 1, () -> of("stretch 0 9 0;woman 0 0 0;week 1;" + STILL).steady());
        HorizonSeam x = of("stretch 0 9 0;" + rest);
        due("10", 10, () -> x.steady());
        x.days(4);
        due("from now on", 6, () -> x.steady());
        due("nor does THREAD", 1, () -> of("stretch 0 99 0;stretch 0 99 0;stretch 0 99 0;woman 0 0 9;week 1;" + STILL).steady());
    }

    private static void nearestAndFar() {
        says("NEAREST to a STRETCH: the WOMAN from whom it is fewest steps (of like ones the least); none");
        String ring = times("stretch 0 9 0;", 12);
        HorizonSeam x = of(ring + "woman 0 6 0;woman 0 2 9;woman 0 2 9;woman 0 11 0;");
        int[] nearest = {3, 1, 1, 1, 0, 0, 0, 0, 0, 3, 3, 3};
        for (int i = 0; i < 12; i++) {
            int stretch = i;
            due("nearest to " + i, nearest[i], () -> x.nearest(stretch));
        }
        due("6 steps round the ring", 0, () -> of(ring + "woman 0 0 0;").nearest(6));
        due("no WOMEN", NONE, () -> new HorizonSeam().nearest(2));

        says("FAR: the fewest steps between two STRETCHES round the ring");
        for (int i = 0; i < 12; i++) {
            for (int k = 0; k < 12; k++) {
                int one = i;
                int other = k;
                int way = Math.abs(i - k);
                due("far(" + i + ", " + k + ") of 12", way > 6 ? 12 - way : way, () -> x.far(one, other));
            }
        }
        HorizonSeam three = new HorizonSeam();
        due("of 3", 1, () -> three.far(0, 2));
        due("of 3", 1, () -> three.far(2, 0));
        due("itself", 0, () -> three.far(2, 2));
    }

    private static void gapsAndLoad() {
        says("GAPS: how many rows of OPEN STRETCHES there are (all OPEN: one)");
        String o = "stretch 9 0 0;";
        String c = "stretch 0 9 0;";
        due("none", 0, () -> of(c + c + c).gaps());
        due("all of 3", 1, () -> of(o + o + o).gaps());
        due("all of 12", 1, () -> of(times(o, 12)).gaps());
        due("all but one", 1, () -> of(o + c + o).gaps());
        due("round the end", 1, () -> of(o + c + c + o).gaps());
        due("0 alone", 1, () -> of(o + c + c).gaps());
        due("the last one alone", 1, () -> of(c + c + o).gaps());
        due("every second one of 12", 6, () -> of(times(o + c, 6)).gaps());
        due("every second one of 12, from 1 on", 6, () -> of(times(c + o, 6)).gaps());
        due("two", 2, () -> of(o + o + c + o + c).gaps());

        says("LOAD: how many rows there are of STRETCHES with so much STRAIN (0 to 99) or more now (all: one)");
        due("none", 0, () -> of(c + c + c).load(9));
        due("all of 3", 1, () -> of(o + o + o).load(9));
        due("all of 12", 1, () -> of(times(o, 12)).load(9));
        due("0: all", 1, () -> of(o + c + o).load(0));
        due("round the end", 1, () -> of(o + c + c + o).load(9));
        due("every second one of 12", 6, () -> of(times(o + c, 6)).load(9));
        due("every second one of 12, from 1 on", 6, () -> of(times(c + o, 6)).load(9));
        due("or more", 6, () -> of(times(o + c, 6)).load(8));
        due("not less", 0, () -> of(times(o + c, 6)).load(10));
        due("99", 1, () -> of("stretch 99 9 0;stretch 98 9 0;stretch 98 9 0;").load(99));
        due("99 of none", 0, () -> of("stretch 98 9 0;").load(99));
        due("100", ILLEGAL, () -> new HorizonSeam().load(100));
        due("-1", ILLEGAL, () -> new HorizonSeam().load(-1));
    }

    private static void idleAndBare() {
        says("IDLE: WOMEN without THREAD, or at a STRETCH where another one of a lesser number is, as bits");
        String ring = times("stretch 0 9 0;", 3);
        due("no WOMEN", 0, () -> new HorizonSeam().count(8));
        due("without thread", 1, () -> of(ring + "woman 0 0 0;").count(8));
        due("with thread of 1", 0, () -> of(ring + "woman 0 0 1;").count(8));
        due("all at one stretch: all but the first", 62, () -> of(ring + times("woman 0 1 9;", 6)).count(8));
        due("a lesser one without thread counts, too", 3, () -> of(ring + "woman 0 1 0;woman 0 1 9;").count(8));
        due("all apart", 0, () -> of(ring + "woman 0 2 9;woman 0 1 9;woman 0 0 9;").count(8));
        due("not a greater one", 4, () -> of(ring + "woman 0 2 9;woman 0 1 9;woman 0 2 9;").count(8));

        says("BARE behind so many DAYS (0 to 60): WOMEN without THREAD, as bits");
        HorizonSeam x = of(ring + "woman 0 0 0;woman 0 0 1;woman 0 0 60;woman 0 0 61;woman 0 0 59;woman 0 0 0;week 1;");
        due("now", 33, () -> x.bare(0));
        due("behind 1", 35, () -> x.bare(1));
        due("behind 58", 35, () -> x.bare(58));
        due("behind 59", 51, () -> x.bare(59));
        due("behind 60", 55, () -> x.bare(60));
        due("behind 61", ILLEGAL, () -> x.bare(61));
        due("behind -1", ILLEGAL, () -> x.bare(-1));
        due("no WOMEN", 0, () -> new HorizonSeam().bare(60));
    }

    private static void worst() {
        says("WORST of a SHIP that TEARS so much (1 to 50) now: that by which most would be OPEN behind 7 DAYS (the least); none");
        HorizonSeam x = of("stretch 0 60 0;stretch 0 50 0;stretch 0 49 0;stretch 0 1 0;stretch 0 0 0;" + STILL);
        due("1", 3, () -> x.worst(1));
        due("48", 3, () -> x.worst(48));
        due("49: of like ones", 2, () -> x.worst(49));
        due("50: of like ones", 1, () -> x.worst(50));
        due("0", ILLEGAL, () -> x.worst(0));
        due("51", ILLEGAL, () -> x.worst(51));
        due("-1", ILLEGAL, () -> x.worst(-1));
        due("nothing changes", 160, () -> x.count(6));
        due("all alike", 0, () -> of(times("stretch 0 99 0;", 12) + STILL).worst(50));
        due("the last one", 11, () -> of(times("stretch 0 60 0;", 11) + "stretch 0 50 0;" + STILL).worst(50));
        due("all are open", NONE, () -> of(ALL_OPEN).worst(50));
        due("the one that isn't open, though nothing comes of it", 2,
                () -> of("stretch 0 0 0;stretch 0 0 0;stretch 0 99 0;" + STILL).worst(1));
        // Torn by 1, the second one opens on the 7th day by the rule; on the 8th the first one would, too.
        due("behind 7", 1, () -> of("stretch 0 90 1;stretch 0 8 0;stretch 0 90 0;pulls 0;frays (stitch=0)*(day<7);").worst(1));
        due("not behind 8", 0, () -> of("stretch 0 90 1;stretch 0 9 0;stretch 0 90 0;pulls 0;frays (stitch=0)*(day<8);").worst(1));
    }

    private static void mendedAndMeet() {
        says("MENDED in so many DAYS (0 to 60): how much THREAD all use");
        HorizonSeam x = of("stretch 0 9 0;woman 0 0 2;woman 0 0 99;woman 0 0 0;week 1;" + STILL);
        due("0", 0, () -> x.later(0, 3));
        due("1", 2, () -> x.later(1, 3));
        due("2", 4, () -> x.later(2, 3));
        due("3", 5, () -> x.later(3, 3));
        due("60", 62, () -> x.later(60, 3));
        due("61", ILLEGAL, () -> x.later(61, 3));
        due("-1", ILLEGAL, () -> x.later(-1, 3));
        due("without WOMEN", 0, () -> new HorizonSeam().later(60, 3));
        due("what is full uses it, too", 1, () -> of("stretch 0 99 0;woman 0 0 1;week 1;" + STILL).later(1, 3));

        says("MEET: behind how many DAYS (0 to 60) two WOMEN are at one STRETCH first; none");
        HorizonSeam y = of(times("stretch 0 9 0;", 12) + "woman 0 0 9;woman 0 0 0;woman 0 11 0;week 1;");
        due("now", 0, () -> y.meet(0, 1));
        due("now", 0, () -> y.meet(1, 0));
        due("all go on, and so they never meet", NONE, () -> y.meet(0, 2));
        due("never, with thread or without", NONE, () -> y.meet(2, 1));
        due("both are one", NONE, () -> y.meet(1, 1));
        y.go(2, 0);
        due("now, as she went there", 0, () -> y.meet(2, 1));
    }
}
