import java.io.IOException;
import java.nio.file.Files;
import java.nio.file.Path;

/** What the tests share: answers that are due, the document's words, houses to begin with. */
class Checks {
    static final int NONE = -1, BAD = -2, STATE = -3, FULL = -4;
    static final int MISSING = -11, OUTSIDE = -12, UNLIKE = -13, NEGATIVE = -14;
    static final int UNTOLD = -100000;
    static final long NO = -4611686018427387904L;
    static final int MIN = Integer.MIN_VALUE, MAX = Integer.MAX_VALUE;
    /** By it all join against all, wherever the rent has more for each. */
    static final String RENT_ALONE = "company 0;oath 0;joins 1;";

    private static final Path DOCUMENT = Path.of("../shared/DOC.md");
    private static final String WORDS = words();

    private static int wrong = 0;
    private static int checks = 0;
    private static int sentences = 0;
    private static int checksAhead = 0;
    private static String sentence = "";

    private static String words() {
        try {
            return plainSpaces(Files.readString(DOCUMENT));
        } catch (IOException e) {
            return null;
        }
    }

    private static String plainSpaces(String s) {
        return s.replaceAll("\\s+", " ");
    }

    /** What comes now tests these words of the document, by themselves. */
    static void says(String words) {
        closeSentence();
        sentences++;
        sentence = words;
        checksAhead = checks;
        if (WORDS != null && !WORDS.contains(plainSpaces(words))) {
            fail("the document doesn't say so");
        }
    }

    private static void closeSentence() {
        if (sentences > 0 && checks == checksAhead) {
            fail("nothing tests it");
        }
    }

    private static void fail(String why) {
        wrong++;
        System.out.println((sentence.isEmpty() ? "" : "[" + sentence + "] ") + why);
    }

    static void due(String call, long got, long want) {
        checks++;
        if (got != want) {
            fail(call + " answered " + got + ", due is " + want);
        }
    }

    static void finish() {
        closeSentence();
        System.out.println(checks + " answers" + (sentences > 0 ? " by " + sentences + " sentences" : "")
            + ", " + wrong + " not as due");
        if (wrong != 0) {
            System.exit(1);
        }
    }

    /** A house of so many INMATES of KIND 0, NUMBER 0. */
    static ThreeOfThem plain(int people) {
        ThreeOfThem x = new ThreeOfThem();
        for (int i = 0; i < people; i++) {
            x.inmate(0, 0);
        }
        return x;
    }

    static void feed(ThreeOfThem x, String text) {
        for (int i = 0; i < text.length(); i++) {
            x.feed(text.charAt(i));
        }
    }

    static int read(ThreeOfThem x, String text) {
        feed(x, text);
        return x.text();
    }

    /** Reads a text, which must be one, and puts it in force. */
    static void rule(ThreeOfThem x, String text) {
        int t = read(x, text);
        due("text() of " + text + " is one", t > 0 ? 1 : t, 1);
        x.force(t);
    }

    /** A house of so many by a rule and a rent. */
    static ThreeOfThem house(int people, int rent, String text) {
        ThreeOfThem x = plain(people);
        x.set(0, 0, rent);
        rule(x, text);
        return x;
    }

    static void row(ThreeOfThem x, int sheet, int sort, int... all) {
        x.sheet(sheet, sort, all.length);
        for (int i = 0; i < all.length; i++) {
            x.cell(sheet, i, all[i]);
        }
    }

    /** How one LIKES another one, which stays so. */
    static int likeOf(ThreeOfThem x, int one, int other) {
        int was = x.like(one, other, 5);
        x.like(one, other, was);
        return was;
    }
}
