import java.util.NoSuchElementException;

/** The horizon, mended on Thursdays: a ring of stretches whose seams fray and open, and the women who mend them. */
public final class HorizonSeam {
    /** There is none. */
    public static final int NONE = -1;

    private static final int FEWER_WOMEN = -2;

    private static final int MOST_BYTES = 700;
    private static final int MOST_STRETCHES = 12;
    private static final int FEWEST_STRETCHES = 3;
    private static final int MOST_WOMEN = 6;
    private static final int MOST_WORDS = 8;
    private static final int MOST_ACTS = 40;
    private static final int MOST_SEEN = 8;

    /** STRAIN, SEAM and THREAD never go above it. */
    private static final int FULL = 99;
    private static final int SEAM_UNTOLD = 50;
    private static final int WEEK_UNTOLD = 7;

    private static final int LAST_DAY = 999;
    private static final int MOST_DAYS_AT_ONCE = 20;
    private static final int MOST_DAYS_AHEAD = 60;
    private static final int MOST_DAYS_SEEN = 20;
    private static final int MOST_GALE_DAYS = 5;
    private static final int DAYS_OF_A_LOOK = 5;
    private static final int DAYS_OF_A_GAME = 5;
    private static final int DAYS_BEHIND_THE_WORST = 7;
    private static final int MOST_TORN = 50;
    private static final int MOST_THREAD_AT_ONCE = 50;
    private static final int GALE_STRAIN = 15;
    private static final int YEARS_STRAIN = 9;
    private static final int YEARS_THREAD = 5;

    /** How many numbers a Land is written down as: the day, three a stretch, two a woman. */
    private static final int LAND_SIZE = 1 + 3 * MOST_STRETCHES + 2 * MOST_WOMEN;

    // A rule's code: a number of the text is itself, all else is below 0.
    private static final int VALUE_STRAIN = -1;
    private static final int VALUE_SEAM = -2;
    private static final int VALUE_STITCH = -3;
    private static final int VALUE_BESIDE = -4;
    private static final int VALUE_WOMEN = -5;
    private static final int VALUE_DAY = -6;
    private static final int DO_NOT = -7;
    private static final int DO_OR = -8;
    private static final int DO_AND = -9;
    private static final int DO_LESS = -10;
    private static final int DO_SAME = -11;
    private static final int DO_PLUS = -12;
    private static final int DO_MINUS = -13;
    private static final int DO_TIMES = -14;
    private static final int DO_BY = -15;

    /** Far above the values that wait at once: 6 EXPRs within each other, of 5 ranks each. */
    private static final int MOST_WAITING = 64;

    private final byte[] tape = new byte[MOST_BYTES];
    private int tapeLength = 0;
    private int faultPlace = NONE;
    private int refusedTexts = 0;
    private int refusedActs = 0;
    private int refusedSights = 0;

    private Told told = new Told();
    private Told draft = new Told();
    private final Moment now = new Moment();
    private final Moment kept = new Moment();
    private boolean hasImage = false;

    private final Land trial = new Land();
    private final Land before = new Land();
    private final Guess guess = new Guess();
    private int seed = 0;
    private final Sending sending = new Sending();
    private final int[] gains = new int[8];

    public HorizonSeam() {
        fillUp(told, now.land);
    }

    // ---- the tape and the text

    public int feed(int a, int b, int c, int d, int e) {
        if (tapeLength + 20 > MOST_BYTES) {
            return NONE;
        }
        putBytes(a);
        putBytes(b);
        putBytes(c);
        putBytes(d);
        putBytes(e);
        return tapeLength;
    }

    private void putBytes(int four) {
        for (int shift = 24; shift >= 0; shift -= 8) {
            if (tapeLength < tape.length) {
                tape[tapeLength] = (byte) (four >>> shift);
                tapeLength++;
            }
        }
    }

    public int ring(int n) throws IllegalArgumentException {
        if (n < 0 || n > tapeLength) {
            throw new IllegalArgumentException("the tape has not so many");
        }
        tapeLength = 0;
        draft.clear();
        trial.day = 0;
        Reader reader = new Reader(tape, n, draft, trial);
        if (!reader.readText()) {
            faultPlace = reader.place;
            refusedTexts++;
            return reader.mistake;
        }
        faultPlace = NONE;
        Told old = told;
        told = draft;
        draft = old;
        fillUp(told, trial);
        now.land.copyFrom(trial);
        now.past.clear();
        now.seen.clear();
        hasImage = false;
        return 0;
    }

    public int fault() {
        return faultPlace;
    }

    // ---- how it is now

    public int count(int what) throws NoSuchElementException {
        switch (what) {
            case 0:
                return told.stretches;
            case 1:
                return told.women;
            case 2:
                return told.knots.many;
            case 3:
                return told.week;
            case 4:
                return now.land.day;
            case 5:
                return now.land.openBits(told);
            case 6:
                return now.land.seamOfAll(told);
            case 7:
                return now.land.threadOfAll(told);
            case 8:
                return now.land.idleBits(told);
            case 9:
                return now.past.many;
            case 10:
                return now.seen.many;
            case 11:
                return tapeLength;
            case 12:
                return refusedTexts;
            case 13:
                return refusedActs;
            case 14:
                return refusedSights;
            default:
                throw new NoSuchElementException("no such count");
        }
    }

    public int stretch(int stretch, int what) throws NoSuchElementException {
        needStretch(stretch);
        switch (what) {
            case 0:
                return now.land.strain[stretch];
            case 1:
                return now.land.seam[stretch];
            case 2:
                return now.land.stitch[stretch];
            case 3:
                return now.land.womenBits(told, stretch);
            case 4:
                return now.land.isOpen(stretch) ? 0 : now.land.fraysBy(told, stretch);
            case 5:
                return now.land.isOpen(stretch) ? 0 : now.land.pullsBy(told, stretch);
            default:
                throw new NoSuchElementException("no such what of a stretch");
        }
    }

    public int woman(int woman, int what) throws NoSuchElementException {
        needWoman(woman);
        switch (what) {
            case 0:
                return told.skill[woman];
            case 1:
                return now.land.at[woman];
            case 2:
                return now.land.thread[woman];
            default:
                throw new NoSuchElementException("no such what of a woman");
        }
    }

    // ---- acts

    public int days(int many) {
        if (many < 1 || many > MOST_DAYS_AT_ONCE || now.land.day + many > LAST_DAY) {
            return refuseAct();
        }
        now.past.keep(now.land);
        now.land.passDays(told, many);
        return now.land.day;
    }

    public int mend(int woman) throws NoSuchElementException {
        needWoman(woman);
        if (now.land.thread[woman] < 1) {
            return refuseAct();
        }
        now.past.keep(now.land);
        now.land.mendBy(told, woman);
        return now.land.seamWhere(woman);
    }

    public int go(int woman, int stretch) throws NoSuchElementException {
        needWoman(woman);
        needStretch(stretch);
        int was = now.land.at[woman];
        if (was == stretch) {
            return refuseAct();
        }
        now.past.keep(now.land);
        now.land.at[woman] = stretch;
        return was;
    }

    public int stitch(int stretch, int kind) throws NoSuchElementException {
        needStretch(stretch);
        int was = now.land.stitch[stretch];
        if (kind < 0 || kind > 2 || kind == was) {
            return refuseAct();
        }
        now.past.keep(now.land);
        now.land.stitch[stretch] = kind;
        return was;
    }

    public int thread(int woman, int more) throws NoSuchElementException {
        needWoman(woman);
        if (more < 1 || more > MOST_THREAD_AT_ONCE) {
            return refuseAct();
        }
        now.past.keep(now.land);
        now.land.giveThread(woman, more);
        return now.land.thread[woman];
    }

    public int tear(int stretch, int much) throws NoSuchElementException {
        needStretch(stretch);
        if (much < 1 || much > MOST_TORN || now.land.isOpen(stretch)) {
            return refuseAct();
        }
        now.past.keep(now.land);
        now.land.tearOff(told, stretch, much);
        return now.land.seam[stretch];
    }

    public int undo() {
        if (now.past.many < 1) {
            return NONE;
        }
        now.past.takeBack(now.land);
        return now.past.many;
    }

    private int refuseAct() {
        refusedActs++;
        return NONE;
    }

    // ---- if only days go by

    public int then(int stretch, int days, int what) throws NoSuchElementException, IllegalArgumentException {
        needStretch(stretch);
        needWhat(what, 1);
        needDays(days, 0);
        lookAhead(days);
        return what == 0 ? trial.strain[stretch] : trial.seam[stretch];
    }

    public int later(int days, int what) throws NoSuchElementException, IllegalArgumentException {
        needWhat(what, 3);
        needDays(days, 0);
        lookAhead(days);
        switch (what) {
            case 0:
                return trial.openBits(told);
            case 1:
                return trial.tightest(told);
            case 2:
                return trial.mostStrain(told) - trial.leastStrain(told);
            default:
                return now.land.threadOfAll(told) - trial.threadOfAll(told);
        }
    }

    public int opens(int stretch) throws NoSuchElementException {
        needStretch(stretch);
        trial.copyFrom(now.land);
        for (int days = 0; days <= MOST_DAYS_AHEAD; days++) {
            if (trial.isOpen(stretch)) {
                return days;
            }
            trial.passDay(told);
        }
        return NONE;
    }

    public int first() {
        trial.copyFrom(now.land);
        int closedNow = ~trial.openBits(told);
        for (int days = 1; days <= MOST_DAYS_AHEAD; days++) {
            trial.passDay(told);
            int opened = trial.openBits(told) & closedNow;
            if (opened != 0) {
                return leastBit(opened);
            }
        }
        return NONE;
    }

    public int where(int woman, int days, int what) throws NoSuchElementException, IllegalArgumentException {
        needWoman(woman);
        needWhat(what, 1);
        needDays(days, 0);
        lookAhead(days);
        return what == 0 ? trial.at[woman] : trial.thread[woman];
    }

    public int spent() {
        trial.copyFrom(now.land);
        for (int days = 0; days <= MOST_DAYS_AHEAD; days++) {
            if (trial.threadOfAll(told) == 0) {
                return days;
            }
            trial.passDay(told);
        }
        return NONE;
    }

    public int steady() {
        trial.copyFrom(now.land);
        for (int days = 1; days <= MOST_DAYS_AHEAD; days++) {
            before.copyFrom(trial);
            trial.passDay(told);
            if (trial.isLike(before, told)) {
                return days;
            }
        }
        return NONE;
    }

    public int bare(int days) throws IllegalArgumentException {
        needDays(days, 0);
        lookAhead(days);
        return trial.bareBits(told);
    }

    public int meet(int woman, int other) throws NoSuchElementException {
        needWoman(woman);
        needWoman(other);
        // All women go on on the same days, so those who are apart now stay apart.
        return woman != other && now.land.at[woman] == now.land.at[other] ? 0 : NONE;
    }

    private void lookAhead(int days) {
        trial.copyFrom(now.land);
        trial.passDays(told, days);
    }

    // ---- what to do

    public int toHold(int stretch, int days) throws NoSuchElementException, IllegalArgumentException {
        needStretch(stretch);
        needDays(days, 1);
        int room = FULL - now.land.seam[stretch];
        for (int more = 0; more <= room; more++) {
            trial.copyFrom(now.land);
            trial.seam[stretch] += more;
            if (staysClosed(stretch, days)) {
                return more;
            }
        }
        return NONE;
    }

    private boolean staysClosed(int stretch, int days) {
        for (int k = 0; k < days; k++) {
            trial.passDay(told);
            if (trial.isOpen(stretch)) {
                return false;
            }
        }
        return true;
    }

    public int toSend(int woman, int days, int what) throws NoSuchElementException, IllegalArgumentException {
        needWoman(woman);
        needWhat(what, 1);
        needDays(days, 1);
        int best = 0;
        int fewest = MOST_STRETCHES + 1;
        for (int i = 0; i < told.stretches; i++) {
            trial.copyFrom(now.land);
            trial.at[woman] = i;
            trial.passDays(told, days);
            int open = Integer.bitCount(trial.openBits(told));
            if (open < fewest) {
                fewest = open;
                best = i;
            }
        }
        return what == 0 ? best : fewest;
    }

    public int bestStitch(int stretch, int days) throws NoSuchElementException, IllegalArgumentException {
        needStretch(stretch);
        needDays(days, 1);
        int best = 0;
        int most = -1;
        for (int kind = 0; kind <= 2; kind++) {
            trial.copyFrom(now.land);
            trial.stitch[stretch] = kind;
            trial.passDays(told, days);
            if (trial.seam[stretch] > most) {
                most = trial.seam[stretch];
                best = kind;
            }
        }
        return best;
    }

    public int worst(int much) throws IllegalArgumentException {
        if (much < 1 || much > MOST_TORN) {
            throw new IllegalArgumentException("a ship does not tear so much");
        }
        int worst = NONE;
        int most = -1;
        for (int i = 0; i < told.stretches; i++) {
            if (!now.land.isOpen(i)) {
                trial.copyFrom(now.land);
                trial.tearOff(told, i, much);
                trial.passDays(told, DAYS_BEHIND_THE_WORST);
                int open = Integer.bitCount(trial.openBits(told));
                if (open > most) {
                    most = open;
                    worst = i;
                }
            }
        }
        return worst;
    }

    public int sent(int some, int stretch) throws NoSuchElementException, IllegalArgumentException {
        if (some < 0 || some >= 1 << told.stretches || Integer.bitCount(some) > MOST_WOMEN) {
            throw new IllegalArgumentException("not bits of stretches, or too many");
        }
        if (stretch != NONE && (!isStretch(stretch) || (some >> stretch & 1) == 0)) {
            throw new NoSuchElementException("no such stretch of these");
        }
        if (Integer.bitCount(some) > told.women) {
            return FEWER_WOMEN;
        }
        sending.weigh(told, now.land, some);
        return stretch == NONE ? sending.stepsOfAll() : sending.whoGoesTo(told, now.land, stretch);
    }

    // ---- rows round the ring

    public int closed(int what) throws NoSuchElementException {
        needWhat(what, 1);
        int longest = 0;
        int start = NONE;
        for (int i = 0; i < told.stretches; i++) {
            int length = closedFrom(i);
            if (length > longest) {
                longest = length;
                start = i;
            }
        }
        return what == 0 ? longest : start;
    }

    private int closedFrom(int start) {
        int i = start;
        for (int length = 0; length < told.stretches; length++) {
            if (now.land.isOpen(i)) {
                return length;
            }
            i = told.after(i);
        }
        return told.stretches;
    }

    public int tight(int many, int what) throws NoSuchElementException, IllegalArgumentException {
        needWhat(what, 1);
        if (many < 1 || many > MOST_STRETCHES) {
            throw new IllegalArgumentException("no row is so long");
        }
        if (many > told.stretches) {
            return NONE;
        }
        int most = -1;
        int start = NONE;
        for (int i = 0; i < told.stretches; i++) {
            int strain = strainFrom(i, many);
            if (strain > most) {
                most = strain;
                start = i;
            }
        }
        return what == 0 ? most : start;
    }

    private int strainFrom(int start, int many) {
        int sum = 0;
        int i = start;
        for (int k = 0; k < many; k++) {
            sum += now.land.strain[i];
            i = told.after(i);
        }
        return sum;
    }

    public int gaps() {
        return rowsOf(now.land.openBits(told));
    }

    public int load(int strain) throws IllegalArgumentException {
        if (strain < 0 || strain > FULL) {
            throw new IllegalArgumentException("no stretch has such strain");
        }
        return rowsOf(now.land.strainedBits(told, strain));
    }

    private int rowsOf(int bits) {
        int starts = 0;
        for (int i = 0; i < told.stretches; i++) {
            if ((bits >> i & 1) == 1 && (bits >> told.ahead(i) & 1) == 0) {
                starts++;
            }
        }
        // A full ring is a row that starts nowhere.
        return starts == 0 && bits != 0 ? 1 : starts;
    }

    public int nearest(int stretch) throws NoSuchElementException {
        needStretch(stretch);
        int who = NONE;
        int fewest = MOST_STRETCHES;
        for (int w = 0; w < told.women; w++) {
            int steps = told.steps(now.land.at[w], stretch);
            if (steps < fewest) {
                fewest = steps;
                who = w;
            }
        }
        return who;
    }

    public int far(int stretch, int other) throws NoSuchElementException {
        needStretch(stretch);
        needStretch(other);
        return told.steps(stretch, other);
    }

    // ---- knots

    public int readings(int number, int what) throws NoSuchElementException, IllegalArgumentException {
        needWhat(what, 1);
        if (number < 0 || number > 999999999) {
            throw new IllegalArgumentException("not 0 to 999999999");
        }
        told.knots.untie(number);
        return what == 0 ? told.knots.ways[0] : told.knots.fewest[0];
    }

    // ---- what was seen

    public int see(int stretch, int days, int seam) throws NoSuchElementException {
        needStretch(stretch);
        boolean can = now.seen.many < MOST_SEEN && days >= 0 && days <= MOST_DAYS_SEEN && seam >= 0 && seam <= FULL;
        if (!can) {
            refusedSights++;
            return NONE;
        }
        now.seen.put(stretch, days, seam);
        return now.seen.many;
    }

    public void forget() {
        now.seen.clear();
    }

    public int torn(int what) throws NoSuchElementException {
        needWhat(what, 2);
        if (what == 2) {
            return guess.isSoWithout(told, now) ? 1 : 0;
        }
        guess.weighTears(told, now, 0);
        return what == 0 ? guess.many : guess.least;
    }

    public int look(int what) throws NoSuchElementException {
        needWhat(what, 1);
        guess.weighTears(told, now, DAYS_OF_A_LOOK);
        int best = NONE;
        int most = 0;
        for (int i = 0; i < told.stretches; i++) {
            int unlike = guess.unlikeSeams(i);
            if (unlike > most) {
                most = unlike;
                best = i;
            }
        }
        return what == 0 ? best : most;
    }

    // ---- gales, a game, years

    public int gales(int days, int tenths) throws IllegalArgumentException {
        if (days < 1 || days > MOST_GALE_DAYS || tenths < 0 || tenths > 10) {
            throw new IllegalArgumentException("no such days or tenths");
        }
        int closedNow = ~now.land.openBits(told);
        int likely = 0;
        for (int galeBits = 0; galeBits < 1 << days; galeBits++) {
            int weight = weightOf(galeBits, days, tenths);
            if (weight > 0) {
                blow(galeBits, days);
                if ((trial.openBits(told) & closedNow) != 0) {
                    likely += weight;
                }
            }
        }
        return likely;
    }

    private static int weightOf(int galeBits, int days, int tenths) {
        int weight = 1;
        for (int k = 0; k < days; k++) {
            weight *= (galeBits >> k & 1) == 1 ? tenths : 10 - tenths;
        }
        return weight;
    }

    private void blow(int galeBits, int days) {
        trial.copyFrom(now.land);
        for (int k = 0; k < days; k++) {
            if ((galeBits >> k & 1) == 1) {
                trial.gale(told);
            }
            trial.passDay(told);
        }
    }

    public int game(int woman, int other, int what) throws NoSuchElementException, IllegalArgumentException {
        needWoman(woman);
        needWoman(other);
        needWhat(what, 1);
        if (woman == other) {
            throw new IllegalArgumentException("a game is of two women");
        }
        for (int couple = 0; couple < 4; couple++) {
            playCouple(woman, other, couple);
        }
        int resting = 0;
        int start = NONE;
        for (int couple = 3; couple >= 0; couple--) {
            if (rests(couple)) {
                resting++;
                start = 10 * (couple >> 1) + (couple & 1);
            }
        }
        return what == 0 ? resting : start;
    }

    /** A couple is 2 by the first one's choice and the other one's; gains has, of each, hers and the other one's. */
    private void playCouple(int woman, int other, int couple) {
        int choice = couple >> 1;
        int otherChoice = couple & 1;
        trial.copyFrom(now.land);
        // Who mends first changes nothing: they add to a seam that is cut at the same height.
        play(woman, choice);
        play(other, otherChoice);
        trial.passDays(told, DAYS_OF_A_GAME);
        gains[2 * couple] = seamThen(woman) / 10 - choice;
        gains[2 * couple + 1] = seamThen(other) / 10 - otherChoice;
    }

    /** In the trial, of the stretch where she is now. */
    private int seamThen(int woman) {
        int stretch = now.land.at[woman];
        return isStretch(stretch) ? trial.seam[stretch] : 0;
    }

    private void play(int woman, int choice) {
        if (choice == 1) {
            trial.goOn(told, woman);
        }
        trial.mendBy(told, woman);
    }

    private boolean rests(int couple) {
        int otherWay = couple ^ 2;
        int othersOtherWay = couple ^ 1;
        return gains[2 * couple] >= gains[2 * otherWay] && gains[2 * couple + 1] >= gains[2 * othersOtherWay + 1];
    }

    public int years(int seed, int n, int what) throws NoSuchElementException, IllegalArgumentException {
        needWhat(what, 2);
        needDays(n, 0);
        trial.copyFrom(now.land);
        this.seed = seed;
        for (int k = 0; k < n; k++) {
            befall();
            trial.passDay(told);
        }
        switch (what) {
            case 0:
                return Integer.bitCount(trial.openBits(told));
            case 1:
                return trial.seamOfAll(told);
            default:
                return trial.threadOfAll(told);
        }
    }

    private void befall() {
        int event = draw(6);
        if (event == 0) {
            int stretch = draw(told.stretches);
            int much = draw(20) + 1;
            trial.tearOff(told, stretch, much);
        } else if (event == 1) {
            trial.addStrain(draw(told.stretches), YEARS_STRAIN);
        } else if (event == 2 && told.women > 0) {
            trial.giveThread(draw(told.women), YEARS_THREAD);
        }
    }

    private int draw(int n) {
        seed = seed * 1103515245 + 12345;
        return n < 1 ? 0 : (seed >>> 16 & 0x7FFF) % n;
    }

    // ---- the image

    public void image() {
        kept.copyFrom(now);
        hasImage = true;
    }

    public boolean restore() {
        if (!hasImage) {
            return false;
        }
        now.copyFrom(kept);
        return true;
    }

    // ---- what calls need

    private boolean isStretch(int stretch) {
        return stretch >= 0 && stretch < told.stretches;
    }

    private void needStretch(int stretch) {
        if (!isStretch(stretch)) {
            throw new NoSuchElementException("no such stretch");
        }
    }

    private void needWoman(int woman) {
        if (woman < 0 || woman >= told.women) {
            throw new NoSuchElementException("no such woman");
        }
    }

    private static void needWhat(int what, int most) {
        if (what < 0 || what > most) {
            throw new NoSuchElementException("no such what");
        }
    }

    private static void needDays(int days, int least) {
        if (days < least || days > MOST_DAYS_AHEAD) {
            throw new IllegalArgumentException("not so many days");
        }
    }

    /** The rest of 3 stretches, if fewer are told. */
    private static void fillUp(Told told, Land land) {
        for (int i = told.stretches; i < FEWEST_STRETCHES; i++) {
            land.putStretch(i, 0, SEAM_UNTOLD, 0);
        }
        told.stretches = Math.max(told.stretches, FEWEST_STRETCHES);
    }

    private static int leastBit(int bits) {
        for (int k = 0; k < 32; k++) {
            if ((bits >> k & 1) == 1) {
                return k;
            }
        }
        return NONE;
    }

    private static int within(int x, int least, int most) {
        return Math.max(least, Math.min(most, x));
    }

    /** The words of the text; a VALUE has its code, all others 0. */
    private enum Word {
        STRETCH("stretch", 0),
        WOMAN("woman", 0),
        KNOTS("knots", 0),
        WEEK("week", 0),
        FRAYS("frays", 0),
        PULLS("pulls", 0),
        OR("or", 0),
        AND("and", 0),
        NOT("not", 0),
        STRAIN("strain", VALUE_STRAIN),
        SEAM("seam", VALUE_SEAM),
        STITCH("stitch", VALUE_STITCH),
        BESIDE("beside", VALUE_BESIDE),
        WOMEN("women", VALUE_WOMEN),
        DAY("day", VALUE_DAY),
        OTHER("", 0);

        private static final Word[] ALL = values();

        final String spelling;
        final int code;

        Word(String spelling, int code) {
            this.spelling = spelling;
            this.code = code;
        }

        static Word of(byte[] text, int from, int to) {
            for (int k = 0; k < ALL.length; k++) {
                if (ALL[k].isSpelled(text, from, to)) {
                    return ALL[k];
                }
            }
            return OTHER;
        }

        boolean isSpelled(byte[] text, int from, int to) {
            if (to - from != spelling.length() || from < 0 || to > text.length) {
                return false;
            }
            for (int k = from; k < to; k++) {
                if (text[k] != spelling.charAt(k - from)) {
                    return false;
                }
            }
            return true;
        }
    }

    /** Where a rule's code lies among all of the text's. */
    private static final class Rule {
        boolean given;
        int from;
        int to;

        void clear() {
            given = false;
            from = 0;
            to = 0;
        }
    }

    /** The WORDS of knots. */
    private static final class Knots {
        int many;
        private final int[] worth = new int[MOST_WORDS];
        private final int[] digits = new int[MOST_WORDS];
        private final int[] figures = new int[9];
        /** Of the digits from a place on; one place more, where nothing is left. */
        final int[] ways = new int[10];
        final int[] fewest = new int[10];

        boolean has(int value, int length) {
            for (int k = 0; k < many; k++) {
                if (worth[k] == value && digits[k] == length) {
                    return true;
                }
            }
            return false;
        }

        void tie(int value, int length) {
            if (many < MOST_WORDS) {
                worth[many] = value;
                digits[many] = length;
                many++;
            }
        }

        /** Leaves the answers at place 0 of ways and fewest. */
        void untie(int number) {
            int length = spell(number);
            ways[length] = 1;
            fewest[length] = 0;
            for (int place = length - 1; place >= 0; place--) {
                untieFrom(place, length);
            }
        }

        private int spell(int number) {
            int length = 1;
            for (int rest = number / 10; rest > 0 && length < figures.length; rest /= 10) {
                length++;
            }
            int rest = number;
            for (int place = length - 1; place >= 0; place--) {
                figures[place] = rest % 10;
                rest /= 10;
            }
            return length;
        }

        private void untieFrom(int place, int length) {
            ways[place] = 0;
            fewest[place] = NONE;
            int value = 0;
            for (int end = place + 1; end <= length && end <= place + 4; end++) {
                value = 10 * value + figures[end - 1];
                if (ways[end] > 0 && has(value, end - place)) {
                    ways[place] += ways[end];
                    int words = fewest[end] + 1;
                    fewest[place] = fewest[place] == NONE ? words : Math.min(fewest[place], words);
                }
            }
        }
    }

    /** What the text tells and no act changes. */
    private static final class Told {
        int stretches;
        int women;
        int week = WEEK_UNTOLD;
        boolean weekGiven;
        boolean knotsGiven;
        final int[] skill = new int[MOST_WOMEN];
        final Knots knots = new Knots();
        final Rule frays = new Rule();
        final Rule pulls = new Rule();
        private final int[] code = new int[MOST_BYTES];
        private int codeLength;
        private final int[] waiting = new int[MOST_WAITING];

        void clear() {
            stretches = 0;
            women = 0;
            week = WEEK_UNTOLD;
            weekGiven = false;
            knotsGiven = false;
            knots.many = 0;
            frays.clear();
            pulls.clear();
            codeLength = 0;
        }

        int after(int stretch) {
            return stretch + 1 >= stretches ? 0 : stretch + 1;
        }

        int ahead(int stretch) {
            return stretch < 1 ? stretches - 1 : stretch - 1;
        }

        int steps(int from, int to) {
            int way = Math.abs(from - to);
            return Math.min(way, stretches - way);
        }

        boolean isThursday(int day) {
            return week > 0 && day % week == week - 1;
        }

        void begin(Rule rule) {
            rule.given = true;
            rule.from = codeLength;
            rule.to = codeLength;
        }

        void end(Rule rule) {
            rule.to = codeLength;
        }

        void append(int one) {
            if (codeLength < code.length) {
                code[codeLength] = one;
                codeLength++;
            }
        }

        /** What a rule gives: its code has what is done behind what it is done with. */
        int worthOf(Rule rule, Land land, int stretch) {
            int many = 0;
            for (int k = rule.from; k < rule.to && k < code.length; k++) {
                int one = code[k];
                if (one > DO_NOT) {
                    if (many >= waiting.length) {
                        return 0;
                    }
                    waiting[many] = one >= 0 ? one : land.valueOf(this, one, stretch);
                    many++;
                } else if (one == DO_NOT) {
                    if (many < 1) {
                        return 0;
                    }
                    waiting[many - 1] = waiting[many - 1] == 0 ? 1 : 0;
                } else {
                    if (many < 2) {
                        return 0;
                    }
                    many--;
                    waiting[many - 1] = join(one, waiting[many - 1], waiting[many]);
                }
            }
            return many < 1 ? 0 : waiting[0];
        }

        private static int join(int how, int x, int y) {
            switch (how) {
                case DO_OR:
                    return x != 0 || y != 0 ? 1 : 0;
                case DO_AND:
                    return x != 0 && y != 0 ? 1 : 0;
                case DO_LESS:
                    return x < y ? 1 : 0;
                case DO_SAME:
                    return x == y ? 1 : 0;
                case DO_PLUS:
                    return x + y;
                case DO_MINUS:
                    return x - y;
                case DO_TIMES:
                    return x * y;
                default:
                    return y == 0 ? 0 : x / y;
            }
        }
    }

    /** How it is on a day. */
    private static final class Land {
        int day;
        final int[] strain = new int[MOST_STRETCHES];
        final int[] seam = new int[MOST_STRETCHES];
        final int[] stitch = new int[MOST_STRETCHES];
        final int[] at = new int[MOST_WOMEN];
        final int[] thread = new int[MOST_WOMEN];
        private final int[] pulled = new int[MOST_STRETCHES];

        void putStretch(int i, int strain, int seam, int stitch) {
            if (i >= 0 && i < MOST_STRETCHES) {
                this.strain[i] = strain;
                this.seam[i] = seam;
                this.stitch[i] = stitch;
            }
        }

        void putWoman(int w, int stretch, int thread) {
            if (w >= 0 && w < MOST_WOMEN) {
                this.at[w] = stretch;
                this.thread[w] = thread;
            }
        }

        void copyFrom(Land other) {
            day = other.day;
            System.arraycopy(other.strain, 0, strain, 0, MOST_STRETCHES);
            System.arraycopy(other.seam, 0, seam, 0, MOST_STRETCHES);
            System.arraycopy(other.stitch, 0, stitch, 0, MOST_STRETCHES);
            System.arraycopy(other.at, 0, at, 0, MOST_WOMEN);
            System.arraycopy(other.thread, 0, thread, 0, MOST_WOMEN);
        }

        void writeTo(int[] store, int from) {
            if (from < 0 || from + LAND_SIZE > store.length) {
                return;
            }
            store[from] = day;
            int place = from + 1;
            System.arraycopy(strain, 0, store, place, MOST_STRETCHES);
            System.arraycopy(seam, 0, store, place + MOST_STRETCHES, MOST_STRETCHES);
            System.arraycopy(stitch, 0, store, place + 2 * MOST_STRETCHES, MOST_STRETCHES);
            place += 3 * MOST_STRETCHES;
            System.arraycopy(at, 0, store, place, MOST_WOMEN);
            System.arraycopy(thread, 0, store, place + MOST_WOMEN, MOST_WOMEN);
        }

        void readFrom(int[] store, int from) {
            if (from < 0 || from + LAND_SIZE > store.length) {
                return;
            }
            day = store[from];
            int place = from + 1;
            System.arraycopy(store, place, strain, 0, MOST_STRETCHES);
            System.arraycopy(store, place + MOST_STRETCHES, seam, 0, MOST_STRETCHES);
            System.arraycopy(store, place + 2 * MOST_STRETCHES, stitch, 0, MOST_STRETCHES);
            place += 3 * MOST_STRETCHES;
            System.arraycopy(store, place, at, 0, MOST_WOMEN);
            System.arraycopy(store, place + MOST_WOMEN, thread, 0, MOST_WOMEN);
        }

        // -- what it tells

        boolean isOpen(int i) {
            return seam[i] == 0;
        }

        int openBits(Told told) {
            int bits = 0;
            for (int i = 0; i < told.stretches; i++) {
                if (seam[i] == 0) {
                    bits |= 1 << i;
                }
            }
            return bits;
        }

        int strainedBits(Told told, int least) {
            int bits = 0;
            for (int i = 0; i < told.stretches; i++) {
                if (strain[i] >= least) {
                    bits |= 1 << i;
                }
            }
            return bits;
        }

        int womenBits(Told told, int i) {
            int bits = 0;
            for (int w = 0; w < told.women; w++) {
                if (at[w] == i) {
                    bits |= 1 << w;
                }
            }
            return bits;
        }

        int bareBits(Told told) {
            int bits = 0;
            for (int w = 0; w < told.women; w++) {
                if (thread[w] == 0) {
                    bits |= 1 << w;
                }
            }
            return bits;
        }

        int idleBits(Told told) {
            int bits = bareBits(told);
            for (int w = 0; w < told.women; w++) {
                int lesser = (1 << w) - 1;
                if ((womenBits(told, at[w]) & lesser) != 0) {
                    bits |= 1 << w;
                }
            }
            return bits;
        }

        int seamOfAll(Told told) {
            int sum = 0;
            for (int i = 0; i < told.stretches; i++) {
                sum += seam[i];
            }
            return sum;
        }

        int threadOfAll(Told told) {
            int sum = 0;
            for (int w = 0; w < told.women; w++) {
                sum += thread[w];
            }
            return sum;
        }

        int tightest(Told told) {
            int best = 0;
            for (int i = 1; i < told.stretches; i++) {
                if (strain[i] > strain[best]) {
                    best = i;
                }
            }
            return best;
        }

        int mostStrain(Told told) {
            int most = strain[0];
            for (int i = 1; i < told.stretches; i++) {
                most = Math.max(most, strain[i]);
            }
            return most;
        }

        int leastStrain(Told told) {
            int least = strain[0];
            for (int i = 1; i < told.stretches; i++) {
                least = Math.min(least, strain[i]);
            }
            return least;
        }

        boolean isLike(Land other, Told told) {
            for (int i = 0; i < told.stretches; i++) {
                if (strain[i] != other.strain[i] || seam[i] != other.seam[i]) {
                    return false;
                }
            }
            return true;
        }

        int seamWhere(int w) {
            int i = at[w];
            return i < 0 || i >= MOST_STRETCHES ? 0 : seam[i];
        }

        // -- the rules

        private int besideOf(Told told, int i) {
            int last = told.stretches - 1;
            return strain[i < 1 ? last : i - 1] + strain[i >= last ? 0 : i + 1];
        }

        int valueOf(Told told, int value, int i) {
            switch (value) {
                case VALUE_STRAIN:
                    return strain[i];
                case VALUE_SEAM:
                    return seam[i];
                case VALUE_STITCH:
                    return stitch[i];
                case VALUE_BESIDE:
                    return besideOf(told, i);
                case VALUE_WOMEN:
                    return Integer.bitCount(womenBits(told, i));
                default:
                    return day;
            }
        }

        int pullsBy(Told told, int i) {
            int by = told.pulls.given ? told.worthOf(told.pulls, this, i) : (besideOf(told, i) - 2 * strain[i]) / 9;
            return within(by, -9, 9);
        }

        int fraysBy(Told told, int i) {
            int by = told.frays.given ? told.worthOf(told.frays, this, i) : fraysUntold(i);
            return within(by, 0, 20);
        }

        private int fraysUntold(int i) {
            int plain = strain[i] / 9;
            if (stitch[i] == 1) {
                return plain / 2;
            }
            return stitch[i] == 2 ? plain / 3 : plain;
        }

        // -- a day

        void passDays(Told told, int many) {
            for (int k = 0; k < many; k++) {
                passDay(told);
            }
        }

        void passDay(Told told) {
            // All at once: no stretch may see what another one has become.
            for (int i = 0; i < told.stretches; i++) {
                pulled[i] = isOpen(i) ? strain[i] : within(strain[i] + pullsBy(told, i), 0, FULL);
            }
            System.arraycopy(pulled, 0, strain, 0, told.stretches);
            for (int i = 0; i < told.stretches; i++) {
                if (!isOpen(i)) {
                    wear(told, i, fraysBy(told, i));
                }
            }
            if (told.isThursday(day)) {
                mendAll(told);
            }
            day++;
        }

        private void mendAll(Told told) {
            for (int w = 0; w < told.women; w++) {
                mendBy(told, w);
                goOn(told, w);
            }
        }

        // -- what befalls it

        /** Of a stretch that isn't open. */
        private void wear(Told told, int i, int much) {
            seam[i] = Math.max(0, seam[i] - much);
            if (seam[i] == 0) {
                int half = strain[i] / 2;
                strainIfClosed(told.ahead(i), half);
                strainIfClosed(told.after(i), half);
                strain[i] = 0;
            }
        }

        private void strainIfClosed(int i, int more) {
            if (!isOpen(i)) {
                addStrain(i, more);
            }
        }

        /** What is open already can't be torn. */
        void tearOff(Told told, int i, int much) {
            if (!isOpen(i)) {
                wear(told, i, much);
            }
        }

        void addStrain(int i, int more) {
            strain[i] = Math.min(FULL, strain[i] + more);
        }

        void gale(Told told) {
            for (int i = 0; i < told.stretches; i++) {
                strainIfClosed(i, GALE_STRAIN);
            }
        }

        void giveThread(int w, int more) {
            thread[w] = Math.min(FULL, thread[w] + more);
        }

        void mendBy(Told told, int w) {
            int i = at[w];
            if (thread[w] > 0 && i >= 0 && i < MOST_STRETCHES) {
                thread[w]--;
                seam[i] = Math.min(FULL, seam[i] + 2 * told.skill[w] + 3);
            }
        }

        void goOn(Told told, int w) {
            at[w] = told.after(at[w]);
        }
    }

    /** The acts that are kept, each as it was ahead of it. */
    private static final class Past {
        int many;
        private int oldest;
        private final int[] store = new int[MOST_ACTS * LAND_SIZE];

        void clear() {
            many = 0;
            oldest = 0;
        }

        void copyFrom(Past other) {
            many = other.many;
            oldest = other.oldest;
            System.arraycopy(other.store, 0, store, 0, store.length);
        }

        void keep(Land land) {
            land.writeTo(store, placeOf(many));
            if (many < MOST_ACTS) {
                many++;
            } else {
                oldest = (oldest + 1) % MOST_ACTS;
            }
        }

        void takeBack(Land land) {
            if (many > 0) {
                many--;
                land.readFrom(store, placeOf(many));
            }
        }

        private int placeOf(int act) {
            return (oldest + act) % MOST_ACTS * LAND_SIZE;
        }
    }

    /** What is seen: seams behind so many days. */
    private static final class Seen {
        int many;
        private final int[] stretch = new int[MOST_SEEN];
        private final int[] days = new int[MOST_SEEN];
        private final int[] seam = new int[MOST_SEEN];

        void clear() {
            many = 0;
        }

        void copyFrom(Seen other) {
            many = other.many;
            System.arraycopy(other.stretch, 0, stretch, 0, MOST_SEEN);
            System.arraycopy(other.days, 0, days, 0, MOST_SEEN);
            System.arraycopy(other.seam, 0, seam, 0, MOST_SEEN);
        }

        void put(int stretch, int days, int seam) {
            if (many < MOST_SEEN) {
                this.stretch[many] = stretch;
                this.days[many] = days;
                this.seam[many] = seam;
                many++;
            }
        }

        int lastDay() {
            int last = 0;
            for (int k = 0; k < many; k++) {
                last = Math.max(last, days[k]);
            }
            return last;
        }

        /** Whether all that is seen behind so many days is so in this land, which is as it is then. */
        boolean isSo(Land land, int behind) {
            for (int k = 0; k < many; k++) {
                if (days[k] == behind && land.seam[stretch[k]] != seam[k]) {
                    return false;
                }
            }
            return true;
        }
    }

    /** All that an image keeps. */
    private static final class Moment {
        final Land land = new Land();
        final Past past = new Past();
        final Seen seen = new Seen();

        void copyFrom(Moment other) {
            land.copyFrom(other.land);
            past.copyFrom(other.past);
            seen.copyFrom(other.seen);
        }
    }

    /** Which ship's tears, were they now, would give all that is seen. */
    private static final class Guess {
        int many;
        int least;
        private final Land trial = new Land();
        private final int[] looked = new int[MOST_STRETCHES];
        /** The seams, 0 to 63 and those above, that each stretch has by one of the tears when it is looked at. */
        private final long[] low = new long[MOST_STRETCHES];
        private final long[] high = new long[MOST_STRETCHES];

        boolean isSoWithout(Told told, Moment now) {
            trial.copyFrom(now.land);
            return isSo(told, now.seen, 0);
        }

        void weighTears(Told told, Moment now, int lookAt) {
            many = 0;
            least = NONE;
            for (int i = 0; i < MOST_STRETCHES; i++) {
                low[i] = 0;
                high[i] = 0;
            }
            for (int i = 0; i < told.stretches; i++) {
                // All tears that take the whole seam end alike, so the least of them stands for the rest. What is open
                // has no seam to take: no ship can tear it, so there is no tear of it to weigh.
                int unlike = Math.min(now.land.seam[i], MOST_TORN);
                for (int much = 1; much <= unlike; much++) {
                    trial.copyFrom(now.land);
                    trial.tearOff(told, i, much);
                    if (isSo(told, now.seen, lookAt)) {
                        int alike = much == unlike ? MOST_TORN - unlike + 1 : 1;
                        least = many == 0 ? 100 * i + much : least;
                        many += alike;
                        mark(told);
                    }
                }
            }
        }

        /** Whether all that is seen comes so in the trial; what is there when it is looked at stays behind. */
        private boolean isSo(Told told, Seen seen, int lookAt) {
            int last = Math.max(seen.lastDay(), lookAt);
            for (int day = 0; day <= last; day++) {
                if (!seen.isSo(trial, day)) {
                    return false;
                }
                if (day == lookAt) {
                    System.arraycopy(trial.seam, 0, looked, 0, MOST_STRETCHES);
                }
                if (day < last) {
                    trial.passDay(told);
                }
            }
            return true;
        }

        private void mark(Told told) {
            for (int i = 0; i < told.stretches; i++) {
                if (looked[i] < 64) {
                    low[i] |= 1L << looked[i];
                } else {
                    high[i] |= 1L << looked[i] - 64;
                }
            }
        }

        int unlikeSeams(int i) {
            return Long.bitCount(low[i]) + Long.bitCount(high[i]);
        }
    }

    /** Who goes to some stretches by fewest steps. */
    private static final class Sending {
        private static final int TOO_FAR = 1000;

        /** By bits of the women who have gone, to as many stretches from the first one on: steps for the rest. */
        private final int[] fewest = new int[1 << MOST_WOMEN];
        private final int[] goals = new int[MOST_WOMEN];
        private int many;

        int stepsOfAll() {
            return fewest[0];
        }

        void weigh(Told told, Land land, int some) {
            many = 0;
            for (int i = 0; i < told.stretches; i++) {
                if ((some >> i & 1) == 1 && many < goals.length) {
                    goals[many] = i;
                    many++;
                }
            }
            for (int gone = (1 << told.women) - 1; gone >= 0; gone--) {
                fewest[gone] = Integer.bitCount(gone) >= many ? 0 : fewestBehind(told, land, gone);
            }
        }

        private int fewestBehind(Told told, Land land, int gone) {
            int best = TOO_FAR;
            for (int w = 0; w < told.women; w++) {
                if ((gone >> w & 1) == 0) {
                    best = Math.min(best, stepsBy(told, land, gone, w));
                }
            }
            return best;
        }

        /** Steps from here on, if she is the next one. */
        private int stepsBy(Told told, Land land, int gone, int w) {
            int goal = Integer.bitCount(gone);
            return goal >= many ? 0 : told.steps(land.at[w], goals[goal]) + fewest[gone | 1 << w];
        }

        int whoGoesTo(Told told, Land land, int stretch) {
            int gone = 0;
            for (int goal = 0; goal < many; goal++) {
                int who = whoIsNext(told, land, gone);
                if (goals[goal] == stretch) {
                    return who;
                }
                gone |= who < 0 ? 0 : 1 << who;
            }
            return NONE;
        }

        private int whoIsNext(Told told, Land land, int gone) {
            for (int w = 0; w < told.women; w++) {
                if ((gone >> w & 1) == 0 && stepsBy(told, land, gone, w) == fewest[gone]) {
                    return w;
                }
            }
            return NONE;
        }
    }

    /** Reads a text; stops at its first fault. */
    private static final class Reader {
        private static final int END = 0;
        private static final int WORD = 1;
        private static final int NUMBER = 2;
        private static final int SIGN = 3;
        private static final int BLANK = 4;
        private static final int NO_TOKEN = 5;

        private static final int CANT_STAND = 1;
        private static final int TOO_MUCH = 2;
        private static final int UNTOLD = 3;
        private static final int WORD_AGAIN = 4;
        private static final int LINE_AGAIN = 5;

        private static final int RANK_OR = 0;
        private static final int RANK_AND = 1;
        private static final int RANK_TEST = 2;
        private static final int RANK_SUM = 3;
        private static final int RANK_PART = 5;
        private static final int NO_JOINT = 0;

        private static final int MOST_DIGITS = 4;
        private static final int MOST_EXPRS = 6;
        private static final int MOST_NOTS = 6;

        int mistake = 0;
        int place = NONE;

        private final byte[] text;
        private final int length;
        private final Told told;
        private final Land land;

        /** Where the next token is looked for; all below is of the token that is to be read now. */
        private int next = 0;
        private int kind = END;
        private int start = 0;
        private int value = 0;
        private int digits = 0;

        Reader(byte[] text, int length, Told told, Land land) {
            this.text = text;
            this.length = Math.min(length, text.length);
            this.told = told;
            this.land = land;
        }

        boolean readText() {
            takeToken();
            for (int k = 0; k <= length && kind != END; k++) {
                if (!readLine()) {
                    return false;
                }
            }
            return true;
        }

        private boolean fail(int what) {
            mistake = what;
            place = start;
            return false;
        }

        // -- tokens

        private void takeToken() {
            start = next;
            for (int k = next; k < length && kindAt(k) == BLANK; k++) {
                start = k + 1;
            }
            kind = kindAt(start);
            next = Math.min(start + 1, length);
            if (kind == WORD || kind == NUMBER) {
                for (int k = next; k < length && kindAt(k) == kind; k++) {
                    next = k + 1;
                }
            }
            if (kind == NUMBER) {
                weighNumber();
            }
        }

        private void weighNumber() {
            digits = next - start;
            value = 0;
            for (int k = start; k < next && k < start + MOST_DIGITS; k++) {
                value = 10 * value + text[k] - '0';
            }
        }

        private int kindAt(int at) {
            if (at < 0 || at >= length) {
                return END;
            }
            int b = text[at];
            if (b >= 'a' && b <= 'z') {
                return WORD;
            }
            if (b >= '0' && b <= '9') {
                return NUMBER;
            }
            switch (b) {
                case ' ':
                case 10:
                    return BLANK;
                case ';':
                case '(':
                case ')':
                case '+':
                case '-':
                case '*':
                case '/':
                case '<':
                case '=':
                    return SIGN;
                default:
                    return NO_TOKEN;
            }
        }

        private boolean isWord(Word which) {
            return kind == WORD && which.isSpelled(text, start, next);
        }

        private boolean isSign(char which) {
            return kind == SIGN && start < length && text[start] == which;
        }

        private boolean passSign(char which) {
            if (!isSign(which)) {
                return fail(CANT_STAND);
            }
            takeToken();
            return true;
        }

        // -- lines

        private boolean readLine() {
            if (isWord(Word.STRETCH)) {
                return readStretch();
            }
            if (isWord(Word.WOMAN)) {
                return readWoman();
            }
            if (isWord(Word.KNOTS)) {
                return readKnots();
            }
            if (isWord(Word.WEEK)) {
                return readWeek();
            }
            if (isWord(Word.FRAYS)) {
                return readRule(told.frays);
            }
            if (isWord(Word.PULLS)) {
                return readRule(told.pulls);
            }
            return fail(CANT_STAND);
        }

        private boolean readStretch() {
            if (told.stretches >= MOST_STRETCHES) {
                return fail(TOO_MUCH);
            }
            takeToken();
            if (!isNumber(0, FULL)) {
                return false;
            }
            int strain = value;
            takeToken();
            if (!isNumber(0, FULL)) {
                return false;
            }
            int seam = value;
            takeToken();
            if (!isNumber(0, 2)) {
                return false;
            }
            land.putStretch(told.stretches, strain, seam, value);
            told.stretches++;
            takeToken();
            return passSign(';');
        }

        private boolean readWoman() {
            if (told.women >= MOST_WOMEN) {
                return fail(TOO_MUCH);
            }
            takeToken();
            if (!isNumber(0, 9)) {
                return false;
            }
            int skill = value;
            takeToken();
            if (!isStretchTold()) {
                return false;
            }
            int stretch = value;
            takeToken();
            if (!isNumber(0, FULL)) {
                return false;
            }
            told.skill[told.women] = skill;
            land.putWoman(told.women, stretch, value);
            told.women++;
            takeToken();
            return passSign(';');
        }

        private boolean readKnots() {
            if (told.knotsGiven) {
                return fail(LINE_AGAIN);
            }
            told.knotsGiven = true;
            takeToken();
            if (kind != NUMBER) {
                return fail(CANT_STAND);
            }
            for (int k = 0; k <= MOST_WORDS && kind == NUMBER; k++) {
                if (digits > MOST_DIGITS || told.knots.many >= MOST_WORDS) {
                    return fail(TOO_MUCH);
                }
                if (told.knots.has(value, digits)) {
                    return fail(WORD_AGAIN);
                }
                told.knots.tie(value, digits);
                takeToken();
            }
            return passSign(';');
        }

        private boolean readWeek() {
            if (told.weekGiven) {
                return fail(LINE_AGAIN);
            }
            told.weekGiven = true;
            takeToken();
            if (!isNumber(1, 9)) {
                return false;
            }
            told.week = value;
            takeToken();
            return passSign(';');
        }

        private boolean readRule(Rule rule) {
            if (rule.given) {
                return fail(LINE_AGAIN);
            }
            told.begin(rule);
            takeToken();
            if (!readExpr(0)) {
                return false;
            }
            told.end(rule);
            return passSign(';');
        }

        /** Fails, if it isn't a number that is as told. */
        private boolean isNumber(int least, int most) {
            if (kind != NUMBER) {
                return fail(CANT_STAND);
            }
            return digits <= MOST_DIGITS && value >= least && value <= most || fail(TOO_MUCH);
        }

        /** Fails, if it isn't the number of a stretch that is told ahead. */
        private boolean isStretchTold() {
            return isNumber(0, 9999) && (value < told.stretches || fail(UNTOLD));
        }

        // -- rules; depth: how many EXPRs this one stands within

        private boolean readExpr(int depth) {
            if (depth >= MOST_EXPRS) {
                return fail(kind == NUMBER || kind == WORD || isSign('(') ? TOO_MUCH : CANT_STAND);
            }
            return readRank(RANK_OR, depth);
        }

        private boolean readRank(int rank, int depth) {
            if (rank >= RANK_PART) {
                return readPart(depth);
            }
            int nots = rank == RANK_TEST ? passNots() : 0;
            if (nots > MOST_NOTS || !readRank(rank + 1, depth)) {
                return false;
            }
            int most = rank == RANK_TEST ? 1 : length;
            for (int k = 0; k < most && joint(rank) != NO_JOINT; k++) {
                int how = joint(rank);
                takeToken();
                if (!readRank(rank + 1, depth)) {
                    return false;
                }
                told.append(how);
            }
            for (int k = 0; k < nots; k++) {
                told.append(DO_NOT);
            }
            return true;
        }

        /** How many there are; one too many has failed. */
        private int passNots() {
            for (int nots = 0; nots < MOST_NOTS; nots++) {
                if (!isWord(Word.NOT)) {
                    return nots;
                }
                takeToken();
            }
            if (isWord(Word.NOT)) {
                fail(TOO_MUCH);
                return MOST_NOTS + 1;
            }
            return MOST_NOTS;
        }

        /** What is done to the two sides of the token, if it joins parts of this rank. */
        private int joint(int rank) {
            switch (rank) {
                case RANK_OR:
                    return isWord(Word.OR) ? DO_OR : NO_JOINT;
                case RANK_AND:
                    return isWord(Word.AND) ? DO_AND : NO_JOINT;
                case RANK_TEST:
                    return isSign('<') ? DO_LESS : isSign('=') ? DO_SAME : NO_JOINT;
                case RANK_SUM:
                    return isSign('+') ? DO_PLUS : isSign('-') ? DO_MINUS : NO_JOINT;
                default:
                    return isSign('*') ? DO_TIMES : isSign('/') ? DO_BY : NO_JOINT;
            }
        }

        private boolean readPart(int depth) {
            if (isSign('(')) {
                takeToken();
                return readExpr(depth + 1) && passSign(')');
            }
            if (kind != WORD && kind != NUMBER) {
                return fail(CANT_STAND);
            }
            if (kind == NUMBER && digits > MOST_DIGITS) {
                return fail(TOO_MUCH);
            }
            int code = kind == NUMBER ? value : Word.of(text, start, next).code;
            if (kind == WORD && code == 0) {
                return fail(UNTOLD);
            }
            told.append(code);
            takeToken();
            return true;
        }
    }
}
