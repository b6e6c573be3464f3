import java.nio.charset.StandardCharsets;
import java.util.NoSuchElementException;

/** What the tests share: calls whose answers are held against what is due. */
abstract class Checks {
    static final int NO_SUCH = Integer.MIN_VALUE + 1;
    static final int ILLEGAL = Integer.MIN_VALUE + 2;
    static final int NONE = -1;
    static final int FEWER_WOMEN = -2;

    /** Nothing moves but by the women. */
    static final String STILL = "pulls 0;frays 0;";
    static final String ALL_OPEN = "stretch 0 0 0;stretch 0 0 0;stretch 0 0 0;";

    private static int wrong = 0;
    private static String says = "";

    interface Call {
        int answer();
    }

    /** What the document says there, or the promise's number: all that is checked from here on is of it. */
    static void says(String sentence) {
        says = sentence;
    }

    static void due(String what, int want, Call call) {
        int got = answerOf(call);
        if (got != want) {
            complain(what + " answered " + name(got) + ", due is " + name(want));
        }
    }

    static void complain(String what) {
        wrong++;
        System.out.println(says + ": " + what);
    }

    static int answerOf(Call call) {
        try {
            return call.answer();
        } catch (NoSuchElementException e) {
            return NO_SUCH;
        } catch (IllegalArgumentException e) {
            return ILLEGAL;
        }
    }

    static String name(int answer) {
        return answer == NO_SUCH ? "NoSuchElementException" : answer == ILLEGAL ? "IllegalArgumentException" : "" + answer;
    }

    static int feedText(HorizonSeam x, String text) {
        byte[] bytes = text.getBytes(StandardCharsets.ISO_8859_1);
        int fed = 0;
        for (int at = 0; at < bytes.length; at += 20) {
            int[] five = new int[5];
            for (int k = 0; k < 20; k++) {
                int b = at + k < bytes.length ? bytes[at + k] & 255 : ' ';
                five[k / 4] = five[k / 4] << 8 | b;
            }
            fed = x.feed(five[0], five[1], five[2], five[3], five[4]);
        }
        return fed;
    }

    static int ring(HorizonSeam x, String text) {
        feedText(x, text);
        return x.ring(text.length());
    }

    static HorizonSeam of(String text) {
        HorizonSeam x = new HorizonSeam();
        int fault = ring(x, text);
        if (fault != 0) {
            complain("fault " + fault + " at " + x.fault() + " of " + text);
        }
        return x;
    }

    /** The text has this fault at this place. */
    static void fault(String text, int kind, int place) {
        HorizonSeam x = new HorizonSeam();
        due("ring of '" + text + "'", kind, () -> ring(x, text));
        due("fault() of '" + text + "'", place, () -> x.fault());
        due("count(12) behind '" + text + "'", kind == 0 ? 0 : 1, () -> x.count(12));
    }

    static void fine(String text) {
        fault(text, 0, NONE);
    }

    static String times(String part, int many) {
        return part.repeat(many);
    }

    static int bit(boolean holds) {
        return holds ? 1 : 0;
    }

    static void end(String allIsWell) {
        System.out.println(wrong == 0 ? allIsWell : wrong + " answers are not as due");
        if (wrong != 0) {
            System.exit(1);
        }
    }
}
