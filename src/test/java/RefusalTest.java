import java.util.ArrayList;
import java.util.List;

/** That refused calls change nothing, one by one, and that no call throws, whatever it is given. */
public final class RefusalTest extends Checks {
    private interface Call {
        long on(ThreeOfThem x);
    }

    private record Refused(String name, long due, Call call) {
    }

    private static final int[] WILD = {MIN, -1, 0, 1, 6, 7, 40, MAX};

    public static void main(String[] args) {
        says("Refusals, the first that the call's words name; they change nothing");
        List<Long> halfFull = seen(halfFull());
        for (Refused r : whenHalfFull()) {
            nothingChanges(r, halfFull(), halfFull);
        }
        List<Long> full = seen(full());
        for (Refused r : whenFull()) {
            nothingChanges(r, full(), full);
        }
        says("BAD (-2: a number is none such or not as told), STATE (-3), FULL (-4)");
        for (int furnished = 0; furnished < 3; furnished++) {
            wild(furnished);
        }
        finish();
    }

    private static ThreeOfThem halfFull() {
        ThreeOfThem x = new ThreeOfThem();
        for (int i = 0; i < 5; i++) {
            x.inmate(i, i + 2);
        }
        x.set(0, 0, 640);
        x.set(2, 0, 17);
        x.set(4, 4, 0);
        x.like(0, 3, 2);
        x.like(1, 3, 1);
        x.swear(2, 3, 1);
        feed(x, "company like-1;oath 9;joins other-2;");
        x.text();
        x.force(1);
        feed(x, "company (");
        row(x, 0, 0, 0, 1, 7, 3, 0, 8, 1, 2);
        row(x, 1, 1, 3, 1);
        x.sheet(2, 2, 0);
        return x;
    }

    private static ThreeOfThem full() {
        ThreeOfThem x = new ThreeOfThem();
        for (int i = 0; i < 7; i++) {
            x.inmate(i % 6, 9 - i);
        }
        x.image();
        x.set(0, 0, 9999);
        x.set(1, 0, 2);
        x.set(2, 0, 999);
        for (int i = 0; i < 5; i++) {
            feed(x, RENT_ALONE);
            x.text();
        }
        feed(x, " ".repeat(160));
        return x;
    }

    /** All that can be seen of a house, by some 200 calls: what changes it comes last. */
    private static List<Long> seen(ThreeOfThem x) {
        List<Long> all = new ArrayList<>();
        for (int what = 0; what < 9; what++) {
            all.add((long) x.count(what));
        }
        for (int one = 0; one < 7; one++) {
            int[] whats = {0, 1, 2, 6, 7};
            for (int what : whats) {
                all.add((long) x.told(one, what));
            }
        }
        addLikes(all, x);
        for (int what = 0; what < 3; what++) {
            all.add((long) x.now(what));
            all.add((long) x.goOn(what));
            all.add((long) x.oaths(what));
            all.add((long) x.who(1, what));
        }
        for (int s = 0; s < 4; s++) {
            all.add((long) x.copy(s, 0, s, 0, 2));
            all.add((long) x.likes(s, s % 3, 0, 2));
        }
        addLikes(all, x);
        all.add((long) x.text());
        all.add((long) x.back());
        all.add((long) x.count(0));
        all.add((long) x.count(8));
        return all;
    }

    private static void addLikes(List<Long> all, ThreeOfThem x) {
        for (int a = 0; a < 7; a++) {
            for (int b = 0; b < a; b++) {
                all.add((long) likeOf(x, a, b));
                if (b == 0) {
                    all.add((long) likeOf(x, b, a));
                }
            }
        }
    }

    private static void nothingChanges(Refused r, ThreeOfThem x, List<Long> before) {
        due(r.name, r.call.on(x), r.due);
        List<Long> now = seen(x);
        for (int i = 0; i < before.size(); i++) {
            due("behind " + r.name + ", what is seen as number " + i, now.get(i), before.get(i));
        }
    }

    private static List<Refused> whenHalfFull() {
        List<Refused> all = new ArrayList<>();
        all.add(new Refused("inmate(6,0)", BAD, x -> x.inmate(6, 0)));
        all.add(new Refused("inmate(0,10)", BAD, x -> x.inmate(0, 10)));
        all.add(new Refused("like(0,0,1)", BAD, x -> x.like(0, 0, 1)));
        all.add(new Refused("like(0,5,1)", BAD, x -> x.like(0, 5, 1)));
        all.add(new Refused("like(0,1,10)", BAD, x -> x.like(0, 1, 10)));
        all.add(new Refused("swear(1,1,1)", BAD, x -> x.swear(1, 1, 1)));
        all.add(new Refused("swear(5,1,1)", BAD, x -> x.swear(5, 1, 1)));
        all.add(new Refused("swear(0,1,2)", BAD, x -> x.swear(0, 1, 2)));
        all.add(new Refused("set(0,0,10000)", BAD, x -> x.set(0, 0, 10000)));
        all.add(new Refused("set(1,0,6)", BAD, x -> x.set(1, 0, 6)));
        all.add(new Refused("set(2,0,1000)", BAD, x -> x.set(2, 0, 1000)));
        all.add(new Refused("set(3,0,10)", BAD, x -> x.set(3, 0, 10)));
        all.add(new Refused("set(3,5,1)", BAD, x -> x.set(3, 5, 1)));
        all.add(new Refused("set(4,0,2)", BAD, x -> x.set(4, 0, 2)));
        all.add(new Refused("set(4,5,1)", BAD, x -> x.set(4, 5, 1)));
        all.add(new Refused("set(5,0,1)", BAD, x -> x.set(5, 0, 1)));
        all.add(new Refused("told(5,0)", UNTOLD, x -> x.told(5, 0)));
        all.add(new Refused("feed(256)", BAD, x -> x.feed(256)));
        all.add(new Refused("force(2)", BAD, x -> x.force(2)));
        all.add(new Refused("would(7,4)", BAD, x -> x.would(7, 4)));
        all.add(new Refused("turnOut(7,4)", BAD, x -> x.turnOut(7, 4)));
        all.add(new Refused("turnOut(11,2)", STATE, x -> x.turnOut(11, 2)));
        all.add(new Refused("now(3)", BAD, x -> x.now(3)));
        all.add(new Refused("goOn(7)", BAD, x -> x.goOn(7)));
        all.add(new Refused("end(32,0)", BAD, x -> x.end(32, 0)));
        all.add(new Refused("sworn(4)", BAD, x -> x.sworn(4)));
        all.add(new Refused("oaths(3)", BAD, x -> x.oaths(3)));
        all.add(new Refused("shield(0,1)", BAD, x -> x.shield(0, 1)));
        all.add(new Refused("holds(2)", BAD, x -> x.holds(2)));
        all.add(new Refused("drawn(0,31)", BAD, x -> x.drawn(0, 31)));
        all.add(new Refused("chance(0,11,0,0,0)", NO, x -> x.chance(0, 11, 0, 0, 0)));
        all.add(new Refused("back()", STATE, x -> x.back()));
        all.add(new Refused("count(9)", BAD, x -> x.count(9)));
        all.addAll(ofTheHost());
        return all;
    }

    private static List<Refused> ofTheHost() {
        List<Refused> all = new ArrayList<>();
        all.add(new Refused("who(0,3)", BAD, x -> x.who(0, 3)));
        all.add(new Refused("who(3,0)", MISSING, x -> x.who(3, 0)));
        all.add(new Refused("who(2,0)", BAD, x -> x.who(2, 0)));
        all.add(new Refused("who(0,0)", BAD, x -> x.who(0, 0)));
        all.add(new Refused("sheet(0,3,1)", BAD, x -> x.sheet(0, 3, 1)));
        all.add(new Refused("sheet(0,0,41)", BAD, x -> x.sheet(0, 0, 41)));
        all.add(new Refused("sheet(0,0,-1)", NEGATIVE, x -> x.sheet(0, 0, -1)));
        all.add(new Refused("sheet(4,-1,0)", BAD, x -> x.sheet(4, -1, 0)));
        all.add(new Refused("cell(3,0,1)", MISSING, x -> x.cell(3, 0, 1)));
        all.add(new Refused("cell(0,8,1)", OUTSIDE, x -> x.cell(0, 8, 1)));
        all.add(new Refused("cell(0,-1,1)", OUTSIDE, x -> x.cell(0, -1, 1)));
        all.add(new Refused("copy(0,0,3,0,1)", MISSING, x -> x.copy(0, 0, 3, 0, 1)));
        all.add(new Refused("copy(1,0,0,0,1)", UNLIKE, x -> x.copy(1, 0, 0, 0, 1)));
        all.add(new Refused("copy(0,2,0,0,7)", OUTSIDE, x -> x.copy(0, 2, 0, 0, 7)));
        all.add(new Refused("copy(0,0,0,2,7)", OUTSIDE, x -> x.copy(0, 0, 0, 2, 7)));
        all.add(new Refused("copy(0,2,0,0,-1)", OUTSIDE, x -> x.copy(0, 2, 0, 0, -1)));
        all.add(new Refused("likes(0,0,0,14)", BAD, x -> x.likes(0, 0, 0, 14)));
        all.add(new Refused("likes(0,1,0,1)", UNLIKE, x -> x.likes(0, 1, 0, 1)));
        all.add(new Refused("likes(3,0,0,1)", MISSING, x -> x.likes(3, 0, 0, 1)));
        all.add(new Refused("likes(0,0,6,1)", OUTSIDE, x -> x.likes(0, 0, 6, 1)));
        all.add(new Refused("taken(0,6)", BAD, x -> x.taken(0, 6)));
        all.add(new Refused("taken(5,0)", MISSING, x -> x.taken(5, 0)));
        all.add(new Refused("taken(0,1)", UNLIKE, x -> x.taken(0, 1)));
        return all;
    }

    private static List<Refused> whenFull() {
        List<Refused> all = new ArrayList<>();
        all.add(new Refused("inmate(0,0)", FULL, x -> x.inmate(0, 0)));
        all.add(new Refused("inmate(0,-1)", BAD, x -> x.inmate(0, -1)));
        all.add(new Refused("feed(59)", FULL, x -> x.feed(59)));
        all.add(new Refused("feed(-1)", BAD, x -> x.feed(-1)));
        all.add(new Refused("text()", FULL, x -> x.text()));
        all.add(new Refused("force(6)", BAD, x -> x.force(6)));
        all.add(new Refused("who(0,0)", MISSING, x -> x.who(0, 0)));
        return all;
    }

    /** Houses as they are made and furnished answer whatever they are asked, till their calls end. */
    private static void wild(int furnished) {
        int[] callsOfMaking = {0, 100, 310};
        ThreeOfThem x = null;
        int calls = 0;
        int rounds = 0;
        for (int a : WILD) {
            for (int b : WILD) {
                for (int c : WILD) {
                    if (x == null || calls + 29 > 512) {
                        x = furnished == 0 ? new ThreeOfThem() : furnished == 1 ? halfFull() : full();
                        calls = callsOfMaking[furnished];
                    }
                    callAll(x, a, b, c);
                    calls += 29;
                    rounds++;
                }
            }
        }
        due("rounds that came to their end", rounds, WILD.length * WILD.length * WILD.length);
        wildCopies(furnished);
    }

    private static long callAll(ThreeOfThem x, int a, int b, int c) {
        return x.inmate(a, b) + x.like(a, b, c) + x.swear(a, b, c) + x.told(a, b) + x.feed(a) + x.text()
            + x.force(a) + x.would(a, b) + x.now(a) + x.goOn(a) + x.end(a, b) + x.safe() + x.sworn(a)
            + x.oaths(a) + x.shield(a, b) + x.holds(a) + x.who(a, b) + x.drawn(a, b) + x.chance(a, b, c, b, a)
            + x.image() + x.count(a) + x.sheet(a, b, c) + x.cell(a, b, c) + x.likes(a, b, c, c) + x.taken(a, b)
            + x.turnOut(a, b) + x.copy(a, b, a, c, c) + x.set(a, b, c) + x.back();
    }

    private static void wildCopies(int furnished) {
        int answers = 0;
        for (int i : WILD) {
            for (int j : WILD) {
                ThreeOfThem x = new ThreeOfThem();
                x.sheet(0, furnished, 40);
                x.sheet(1, furnished, 7);
                for (int n : WILD) {
                    int got = x.copy(0, i, 1, j, n);
                    boolean inside = i >= 0 && j >= 0 && n >= 0 && (long) i + n <= 40 && (long) j + n <= 7;
                    answers += got == (inside ? n : OUTSIDE) ? 1 : 0;
                }
            }
        }
        due("copies", answers, WILD.length * WILD.length * WILD.length);
    }
}
