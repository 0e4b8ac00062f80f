/** Sentence by sentence, the edges of SHEETS and of what is taken for something: promises 26 to 30. */
public final class HostEdgesTest extends Checks {
    /** The SHEET through which the tests look at items; none of them uses it otherwise. */
    private static final int GLASS = 3;

    public static void main(String[] args) {
        missingAtFirst();
        sheetNumbers();
        sorts();
        sizes();
        allNothing();
        missingAgain();
        cellPlaces();
        lowestBits();
        cellRefused();
        copyPlaces();
        copyNothing();
        copyUponItself();
        copyRefused();
        likesMany();
        likesThree();
        likesOthers();
        likesOutside();
        likesRefused();
        taken();
        takenRefused();
        finish();
    }

    /** Item i of a SHEET, if it is one of 0 .. 9; NONE, if it is another number. */
    private static int item(ThreeOfThem x, int sheet, int sort, int i) {
        x.sheet(GLASS, sort, 3);
        x.cell(GLASS, 1, 1);
        if (x.copy(sheet, i, GLASS, 2, 1) != 1) {
            return BAD;
        }
        return x.likes(GLASS, sort, 0, 1) == 1 ? x.like(0, 1, 5) : NONE;
    }

    private static void items(ThreeOfThem x, int sheet, int sort, int... all) {
        for (int i = 0; i < all.length; i++) {
            due("item " + i, item(x, sheet, sort, i), all[i]);
        }
        due("no item more", x.cell(sheet, all.length, 0), OUTSIDE);
    }

    private static void missingAtFirst() {
        says("SHEETS 0 .. 3 are rows of numbers, or missing (as all are at first)");
        ThreeOfThem x = plain(2);
        for (int s = 0; s < 4; s++) {
            due("cell() of " + s, x.cell(s, 0, 0), MISSING);
            due("copy() of " + s, x.copy(s, 0, s, 0, 0), MISSING);
            due("who() of " + s, x.who(s, 0), MISSING);
            for (int sort = 0; sort < 3; sort++) {
                due("likes() of " + s, x.likes(s, sort, 0, 0), MISSING);
            }
        }
        says("nothing where something is asked");
        due("a missing one has no place either", x.cell(0, -1, 0), MISSING);
    }

    private static void sheetNumbers() {
        says("BAD: no such SHEET, sort; n above 40; -14.");
        ThreeOfThem x = new ThreeOfThem();
        int[] none = {MIN, -1, 4, MAX};
        for (int s : none) {
            due("SHEET " + s, x.sheet(s, 0, 1), BAD);
            due("SHEET " + s + ", missing", x.sheet(s, -1, 0), BAD);
            due("BAD is named ahead of -14", x.sheet(s, 0, -1), BAD);
        }
        for (int s = 0; s < 4; s++) {
            due("SHEET " + s, x.sheet(s, 0, 1), 1);
            for (int t = 0; t < 4; t++) {
                due("each by itself", x.cell(t, 0, 0), t <= s ? 1 : MISSING);
            }
        }
    }

    private static void sorts() {
        says("of sort 0 bytes, 1 shorts, 2 ints.");
        ThreeOfThem x = plain(2);
        int[] none = {MIN, -2, 3, MAX};
        for (int sort : none) {
            due("sort " + sort, x.sheet(0, sort, 1), BAD);
            due("BAD is named ahead of -14", x.sheet(0, sort, -1), BAD);
        }
        due("still missing", x.cell(0, 0, 0), MISSING);
        for (int sort = 0; sort < 3; sort++) {
            due("sort " + sort, x.sheet(0, sort, 3), 1);
            for (int as = 0; as < 3; as++) {
                due("taken for one of " + as, x.likes(0, as, 0, 0), as == sort ? 0 : UNLIKE);
            }
        }
    }

    private static void sizes() {
        says("the host's: -11 nothing where something is asked, -12 a place outside, -13 a thing of another sort "
            + "or KIND, -14 a size below 0.");
        ThreeOfThem x = new ThreeOfThem();
        row(x, 0, 2, 1, 2, 3);
        due("n -1", x.sheet(0, 0, -1), NEGATIVE);
        due("n MIN", x.sheet(0, 2, MIN), NEGATIVE);
        due("as it was", x.cell(0, 2, 3), 1);
        due("nothing where something is asked", x.cell(1, 0, 0), MISSING);
        due("a place outside", x.cell(0, 3, 0), OUTSIDE);
        due("a thing of another sort", x.likes(0, 0, 0, 0), UNLIKE);
        x.inmate(0, 0);
        due("a thing of another KIND", x.taken(0, 1), UNLIKE);
        says("n above 40");
        due("n 41", x.sheet(0, 0, 41), BAD);
        due("n MAX", x.sheet(0, 0, MAX), BAD);
        due("as it was", x.likes(0, 2, 0, 0), 0);
        for (int sort = 0; sort < 3; sort++) {
            due("n 40", x.sheet(1, sort, 40), 1);
            due("the first", x.cell(1, 0, 9), 1);
            due("the last", x.cell(1, 39, 9), 1);
            due("none behind it", x.cell(1, 40, 9), OUTSIDE);
            due("n 0", x.sheet(1, sort, 0), 1);
            due("no first", x.cell(1, 0, 9), OUTSIDE);
            due("a row of none isn't missing", x.likes(1, sort, 0, 0), 0);
        }
    }

    private static void allNothing() {
        says("A SHEET becomes a row of n of a sort, all 0, or missing");
        ThreeOfThem x = plain(2);
        for (int sort = 0; sort < 3; sort++) {
            row(x, 0, sort, 1, 2, 3);
            x.sheet(0, sort, 3);
            items(x, 0, sort, 0, 0, 0);
            row(x, 0, sort, 1, 2, 3);
            x.sheet(0, sort, 1);
            x.sheet(0, sort, 3);
            items(x, 0, sort, 0, 0, 0);
        }
        row(x, 0, 0, 1, 2, 3);
        x.sheet(0, -1, 0);
        x.sheet(0, 0, 4);
        items(x, 0, 0, 0, 0, 0, 0);
    }

    private static void missingAgain() {
        says("missing (sort -1: n does not matter): 1.");
        int[] any = {MIN, -1, 0, 40, 41, MAX};
        for (int n : any) {
            ThreeOfThem x = new ThreeOfThem();
            x.sheet(2, 0, 5);
            due("missing, n " + n, x.sheet(2, -1, n), 1);
            due("nothing is there", x.cell(2, 0, 0), MISSING);
            due("missing already", x.sheet(2, -1, n), 1);
        }
    }

    private static void cellPlaces() {
        says("Item i of a SHEET becomes v");
        ThreeOfThem x = plain(2);
        x.sheet(0, 2, 4);
        due("the first", x.cell(0, 0, 4), 1);
        due("the last", x.cell(0, 3, 7), 1);
        items(x, 0, 2, 4, 0, 0, 7);
        due("again", x.cell(0, 3, 2), 1);
        items(x, 0, 2, 4, 0, 0, 2);
    }

    private static void lowestBits() {
        says("(of bytes, shorts its lowest 8, 16 bits)");
        int[] values = {9, 10, -1, 255, 256, 261, -256 + 9, 65536, 65536 + 8, -65536 + 7, 1 << 31 | 6, 128, 32768};
        int[][] seen = {
            {9, NONE, NONE, NONE, 0, 5, 9, 0, 8, 7, 6, NONE, 0},
            {9, NONE, NONE, NONE, NONE, NONE, NONE, 0, 8, 7, 6, NONE, NONE},
            {9, NONE, NONE, NONE, NONE, NONE, NONE, NONE, NONE, NONE, NONE, NONE, NONE}};
        for (int sort = 0; sort < 3; sort++) {
            ThreeOfThem x = plain(2);
            row(x, 0, sort, values);
            items(x, 0, sort, seen[sort]);
        }
    }

    private static void cellRefused() {
        says("BAD: no such SHEET; -11; -12.");
        ThreeOfThem x = plain(2);
        int[] none = {MIN, -1, 4, MAX};
        for (int s : none) {
            due("BAD is named first", x.cell(s, -1, 0), BAD);
        }
        due("-11 is named ahead of -12", x.cell(1, -1, 0), MISSING);
        due("-11 is named ahead of -12", x.cell(1, 40, 0), MISSING);
        row(x, 0, 0, 1, 2, 3);
        int[] outside = {MIN, -1, 3, 39, 40, MAX};
        for (int i : outside) {
            due("item " + i, x.cell(0, i, 9), OUTSIDE);
        }
        items(x, 0, 0, 1, 2, 3);
    }

    private static void copyPlaces() {
        says("n numbers of a SHEET, from item i on, come to another one's item j on (as they were): n.");
        for (int sort = 0; sort < 3; sort++) {
            ThreeOfThem x = plain(2);
            row(x, 0, sort, 1, 2, 3, 4);
            row(x, 1, sort, 5, 6, 7, 8, 9);
            due("the first to the last", x.copy(0, 0, 1, 4, 1), 1);
            items(x, 1, sort, 5, 6, 7, 8, 1);
            due("the last two to the first", x.copy(0, 2, 1, 0, 2), 2);
            items(x, 1, sort, 3, 4, 7, 8, 1);
            due("all", x.copy(0, 0, 1, 1, 4), 4);
            items(x, 1, sort, 3, 1, 2, 3, 4);
            items(x, 0, sort, 1, 2, 3, 4);
        }
        ThreeOfThem y = plain(2);
        row(y, 0, 2, 65536 + 3, 3);
        y.sheet(1, 2, 2);
        due("ints as they were", y.copy(0, 0, 1, 0, 2), 2);
        items(y, 1, 2, NONE, 3);
        y.sheet(0, 0, 40);
        y.sheet(1, 0, 40);
        due("forty", y.copy(0, 0, 1, 0, 40), 40);
        due("forty to themselves", y.copy(0, 0, 0, 0, 40), 40);
    }

    private static void copyNothing() {
        says("come to another one's item j on");
        ThreeOfThem x = plain(2);
        row(x, 0, 0, 1, 2);
        row(x, 1, 0, 3, 4, 5);
        due("none", x.copy(0, 0, 1, 0, 0), 0);
        due("none, at both ends", x.copy(0, 2, 1, 3, 0), 0);
        due("none, beyond the one's end", x.copy(0, 3, 1, 0, 0), OUTSIDE);
        due("none, beyond the other one's end", x.copy(0, 0, 1, 4, 0), OUTSIDE);
        items(x, 1, 0, 3, 4, 5);
        x.sheet(0, 0, 0);
        due("none of none", x.copy(0, 0, 1, 0, 0), 0);
        due("one of none", x.copy(0, 0, 1, 0, 1), OUTSIDE);
    }

    private static void copyUponItself() {
        says("(as they were)");
        ThreeOfThem x = plain(2);
        row(x, 0, 0, 1, 2, 3, 4, 5);
        due("forward", x.copy(0, 0, 0, 1, 4), 4);
        items(x, 0, 0, 1, 1, 2, 3, 4);
        row(x, 0, 1, 1, 2, 3, 4, 5);
        due("back", x.copy(0, 1, 0, 0, 4), 4);
        items(x, 0, 1, 2, 3, 4, 5, 5);
        row(x, 0, 2, 1, 2, 3, 4, 5);
        due("forward by two", x.copy(0, 0, 0, 2, 3), 3);
        items(x, 0, 2, 1, 2, 1, 2, 3);
        due("upon the same", x.copy(0, 1, 0, 1, 4), 4);
        items(x, 0, 2, 1, 2, 1, 2, 3);
    }

    private static void copyRefused() {
        says("BAD: no such SHEET; -11; -13: they are of unlike sorts; -12 (also with n below 0).");
        ThreeOfThem x = plain(2);
        int[] none = {MIN, -1, 4, MAX};
        for (int s : none) {
            due("BAD is named first", x.copy(s, 0, 0, 0, 0), BAD);
            due("BAD is named first", x.copy(0, 0, s, 0, 0), BAD);
            due("BAD is named first", x.copy(0, -1, s, -1, -1), BAD);
        }
        row(x, 0, 0, 1, 2, 3);
        row(x, 1, 1, 4, 5, 6);
        due("the other one is missing: ahead of -13 and -12", x.copy(0, -1, 2, -1, -1), MISSING);
        due("the one is missing", x.copy(2, 0, 0, 0, 0), MISSING);
        due("both are missing, of no sort", x.copy(2, 0, 3, 0, 0), MISSING);
        for (int sort = 0; sort < 3; sort++) {
            for (int other = 0; other < 3; other++) {
                x.sheet(2, sort, 2);
                x.sheet(3, other, 2);
                due(sort + " to " + other, x.copy(2, 0, 3, 0, 1), sort == other ? 1 : UNLIKE);
                due(sort + " to " + other + ", none", x.copy(2, 0, 3, 0, 0), sort == other ? 0 : UNLIKE);
                due("-13 is named ahead of -12", x.copy(2, 9, 3, 9, 9), sort == other ? OUTSIDE : UNLIKE);
            }
        }
        row(x, 1, 0, 4, 5, 6, 7);
        int[][] outside = {{-1, 0, 1}, {0, -1, 1}, {0, 0, -1}, {3, 0, 1}, {0, 4, 1}, {0, 0, 4}, {1, 0, 3},
            {0, 2, 3}, {2, 0, -1}, {4, 0, 0}, {0, 5, 0}, {MAX, 0, 1}, {0, MAX, 1}, {0, 0, MAX}, {1, 1, MAX},
            {MIN, 0, 1}, {0, MIN, 1}, {0, 0, MIN}, {MAX, MAX, MAX}, {MIN, MIN, MIN}, {MAX, 0, MIN}};
        for (int[] o : outside) {
            due("copy(0," + o[0] + ",1," + o[1] + "," + o[2] + ")", x.copy(0, o[0], 1, o[1], o[2]), OUTSIDE);
        }
        items(x, 1, 0, 4, 5, 6, 7);
    }

    /** A row of so many threes that all tell the same: 0 LIKES 1 by 7. */
    private static int[] threes(int many) {
        int[] all = new int[3 * many];
        for (int i = 0; i < many; i++) {
            all[3 * i + 1] = 1;
            all[3 * i + 2] = 7;
        }
        return all;
    }

    private static void likesMany() {
        says("n of them (0 .. 13): how many became so");
        ThreeOfThem x = plain(2);
        row(x, 0, 2, threes(13));
        int[] none = {MIN, -1, 14, MAX};
        for (int n : none) {
            due("n " + n, x.likes(0, 2, 0, n), BAD);
        }
        for (int n = 0; n <= 13; n++) {
            due("n " + n, x.likes(0, 2, 0, n), n);
        }
        ThreeOfThem y = plain(2);
        row(y, 0, 0, threes(13));
        due("none", y.likes(0, 0, 0, 0), 0);
        due("nothing became so", y.like(0, 1, 5), 5);
        due("one", y.likes(0, 0, 36, 1), 1);
        due("it became so", y.like(0, 1, 7), 7);
        due("what was so already becomes so", y.likes(0, 0, 0, 13), 13);
        y.sheet(0, 0, 0);
        due("none of a row of none", y.likes(0, 0, 0, 0), 0);
        due("none from outside", y.likes(0, 0, -1, 0) + y.likes(0, 0, 1, 0) + y.likes(0, 0, MAX, 0), 0);
    }

    private static void likesThree() {
        says("LIKES by a SHEET that is taken for one of a sort: from one on, three by three (as of like())");
        for (int sort = 0; sort < 3; sort++) {
            ThreeOfThem x = plain(7);
            row(x, 0, sort, 8, 6, 0, 9, 0, 6, 1, 5, 6, 0, 0);
            due("from 1", x.likes(0, sort, 1, 3), 3);
            due("6 LIKES 0", likeOf(x, 6, 0), 9);
            due("0 LIKES 6", likeOf(x, 0, 6), 1);
            due("5 LIKES 6", likeOf(x, 5, 6), 0);
            due("6 LIKES 5", likeOf(x, 6, 5), 5);
        }
        ThreeOfThem y = plain(3);
        row(y, 0, 0, 0, 1, 3, 0, 1, 8);
        due("both", y.likes(0, 0, 0, 2), 2);
        due("the later one holds", y.like(0, 1, 5), 8);
        y.set(4, 0, 0);
        due("also of one OUT", y.likes(0, 0, 0, 1), 1);
        due("it became so", y.like(0, 1, 5), 3);
    }

    private static void likesOthers() {
        says("how many became so (others are left out)");
        int[][] others = {{0, 0, 5}, {1, 1, 5}, {2, 0, 5}, {0, 2, 5}, {-1, 0, 5}, {0, -1, 5}, {0, 1, 10},
            {0, 1, -1}, {7, 0, 5}, {0, 7, 5}, {127, 1, 5}, {0, 1, 127}};
        for (int[] o : others) {
            ThreeOfThem x = plain(2);
            row(x, 0, 0, 1, 0, 2, o[0], o[1], o[2], 0, 1, 3);
            due("of three", x.likes(0, 0, 0, 3), 2);
            due("what stood ahead", x.like(1, 0, 5), 2);
            due("what stood behind", x.like(0, 1, 5), 3);
            due("that one alone", x.likes(0, 0, 3, 1), 0);
            due("as it was", x.like(0, 1, 5), 5);
        }
        ThreeOfThem y = new ThreeOfThem();
        row(y, 0, 0, threes(13));
        due("in an empty house", y.likes(0, 0, 0, 13), 0);
    }

    private static void likesOutside() {
        says("-12: what stood ahead became so.");
        ThreeOfThem x = plain(2);
        row(x, 0, 0, 0, 1, 1, 1, 0, 2, 0, 1);
        due("the third is cut short", x.likes(0, 0, 0, 3), OUTSIDE);
        due("the first became so", x.like(0, 1, 5), 1);
        due("the second became so", x.like(1, 0, 5), 2);
        due("two", x.likes(0, 0, 0, 2), 2);
        ThreeOfThem y = plain(2);
        row(y, 0, 0, 0, 1, 1, 1, 0, 2);
        due("its last item is outside", y.likes(0, 0, 1, 2), OUTSIDE);
        due("1, 1, 1 was left out", y.like(0, 1, 5), 5);
        due("just inside", y.likes(0, 0, 3, 1), 1);
        int[] outside = {MIN, -3, -2, -1, 4, 5, 6, 7, 40, MAX - 1, MAX};
        for (int from : outside) {
            due("from " + from, y.likes(0, 0, from, 1), OUTSIDE);
            due("from " + from, y.likes(0, 0, from, 13), OUTSIDE);
        }
        due("nothing became so", y.like(0, 1, 5), 5);
        due("nothing but by the one inside", y.like(1, 0, 5), 2);
        ThreeOfThem z = plain(2);
        row(z, 0, 2, 9, 0, 1, 7, 0, 1, 8);
        z.sheet(1, 2, 40);
        z.copy(0, 1, 1, 34, 6);
        due("the last two of forty", z.likes(1, 2, 34, 2), 2);
        due("twelve of them are inside, from 4", z.likes(1, 2, 4, 12), 2);
        due("the thirteenth isn't", z.likes(1, 2, 4, 13), OUTSIDE);
    }

    private static void likesRefused() {
        says("BAD: no such SHEET, sort, n; -13; -11; -12");
        ThreeOfThem x = plain(2);
        row(x, 0, 1, 0, 1, 7);
        int[] sheets = {MIN, -1, 4, MAX};
        for (int s : sheets) {
            due("SHEET " + s, x.likes(s, 1, 0, 1), BAD);
        }
        int[] sorts = {MIN, -1, 3, MAX};
        for (int sort : sorts) {
            due("BAD is named ahead of -13: sort " + sort, x.likes(0, sort, 0, 1), BAD);
            due("BAD is named ahead of -11: sort " + sort, x.likes(1, sort, 0, 1), BAD);
        }
        due("BAD is named ahead of -13: n", x.likes(0, 0, 0, 14), BAD);
        due("BAD is named ahead of -11: n", x.likes(1, 0, 0, -1), BAD);
        due("BAD is named ahead of -12: n", x.likes(0, 1, -1, 14), BAD);
        due("-13, of a lesser sort", x.likes(0, 0, 0, 1), UNLIKE);
        due("-13, of a greater sort", x.likes(0, 2, 0, 1), UNLIKE);
        due("-13 is named ahead of -12", x.likes(0, 2, -1, 1), UNLIKE);
        due("-13, of none", x.likes(0, 2, 0, 0), UNLIKE);
        due("-11 is named ahead of -12", x.likes(1, 2, -1, 1), MISSING);
        due("-11, of none", x.likes(1, 2, 0, 0), MISSING);
        due("nothing became so", x.like(0, 1, 5), 5);
    }

    private static void taken() {
        says("An INMATE taken for one of KIND k (0 .. 5), or one under that one (also by others between): the "
            + "NUMBER.");
        int[][] as = {{4, UNLIKE, UNLIKE, UNLIKE, UNLIKE, UNLIKE}, {4, 4, UNLIKE, UNLIKE, UNLIKE, UNLIKE},
            {4, UNLIKE, 4, UNLIKE, UNLIKE, UNLIKE}, {4, 4, UNLIKE, 4, UNLIKE, UNLIKE},
            {4, UNLIKE, 4, UNLIKE, 4, UNLIKE}, {4, 4, UNLIKE, UNLIKE, UNLIKE, 4}};
        for (int kind = 0; kind < 6; kind++) {
            ThreeOfThem x = new ThreeOfThem();
            x.inmate(kind, 4);
            for (int k = 0; k < 6; k++) {
                due("KIND " + kind + " taken for " + k, x.taken(0, k), as[kind][k]);
            }
            x.set(4, 0, 0);
            due("also one who is OUT", x.taken(0, 0), 4);
        }
        ThreeOfThem y = new ThreeOfThem();
        y.inmate(5, 0);
        y.inmate(4, 9);
        due("NUMBER 0", y.taken(0, 1), 0);
        due("NUMBER 9", y.taken(1, 2), 9);
        y.set(3, 0, 9);
        due("as it is now", y.taken(0, 1), 9);
    }

    private static void takenRefused() {
        says("BAD: k; -11: no such INMATE; -13.");
        ThreeOfThem x = plain(6);
        int[] none = {MIN, -1, 6, MAX};
        for (int k : none) {
            due("k " + k, x.taken(0, k), BAD);
            due("BAD is named ahead of -11: k " + k, x.taken(6, k), BAD);
        }
        int[] ones = {MIN, -1, 6, 7, 32, MAX};
        for (int one : ones) {
            due("one " + one, x.taken(one, 0), MISSING);
            due("one " + one, x.taken(one, 5), MISSING);
        }
        due("-13", x.taken(5, 5), UNLIKE);
    }
}
