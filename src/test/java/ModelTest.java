import java.util.ArrayList;
import java.util.Arrays;
import java.util.List;
import java.util.Random;

/**
 * Long drawn runs of calls, each answered by the class and by a model that is written as the
 * document's words go: every band is tried, every set is looked at anew, every text is a tree.
 */
public final class ModelTest {
    private static final int RUNS = 600;
    private static final int CALLS = 512;
    private static final int LOOKING_RUNS = 150;

    private static int wrong = 0;
    private static int moved = 0;
    private static int asked = 0;

    public static void main(String[] args) {
        for (int run = 0; run < RUNS && wrong < 20; run++) {
            new Run(run).go();
        }
        for (int run = 0; run < LOOKING_RUNS && wrong < 20; run++) {
            new Run(RUNS + run).goLooking();
        }
        System.out.println(asked + " answers, " + moved + " of them of houses not at rest; "
            + wrong + " not as due");
        if (wrong != 0 || moved < 1000) {
            System.exit(1);
        }
    }

    /** One new object, its model, and the calls on both. */
    private static final class Run {
        private final int number;
        private final Random random;
        private final ThreeOfThem x = new ThreeOfThem();
        private final Model m = new Model();
        private final List<String> calls = new ArrayList<>();
        private int left = CALLS;
        private final boolean loud;

        Run(int number) {
            this.number = number;
            random = new Random(7L * number + 1);
            loud = number % 3 != 0;
        }

        void go() {
            int people = random.nextInt(8);
            for (int i = 0; i < people; i++) {
                inmate(random.nextInt(6), random.nextInt(10));
            }
            if (loud) {
                int rent = random.nextInt(900);
                due("set(0,0," + rent + ")", x.set(0, 0, rent), m.set(0, 0, rent));
            }
            for (int i = 0; i < people * 3; i++) {
                like();
            }
            while (left > 0) {
                call();
            }
        }

        /** Houses of 4 to 7, most of them not at rest, of which all that can be looked for is asked. */
        void goLooking() {
            int people = 4 + random.nextInt(4);
            for (int i = 0; i < people; i++) {
                inmate(random.nextInt(3) == 0 ? 5 : random.nextInt(6), random.nextInt(10));
            }
            if (random.nextInt(4) > 0) {
                writeRule(pick("company like-3*(days<3);oath 10+days;joins not other=one+1;",
                    "company (like-5)*many;oath like*3-days;joins like<8 or share<20;",
                    "company like-share*(days=2);oath many*days;joins one+other<9;"));
            }
            while (left > 100) {
                change();
                look(people);
            }
        }

        private void writeRule(String text) {
            for (int i = 0; i < text.length(); i++) {
                due("feed(" + (int) text.charAt(i) + ")", x.feed(text.charAt(i)), m.feed(text.charAt(i)));
            }
            due("text() of " + text, x.text(), m.text());
            due("force(1)", x.force(1), m.force(1));
        }

        private void set(int what, int of, int v) {
            due("set(" + what + "," + of + "," + v + ")", x.set(what, of, v), m.set(what, of, v));
        }

        private void change() {
            set(0, 0, random.nextInt(random.nextInt(3) == 0 ? 3000 : 500));
            set(1, 0, 2 + random.nextInt(random.nextInt(3) == 0 ? 4 : 2));
            set(2, 0, random.nextInt(random.nextInt(4) == 0 ? 1000 : 6));
            set(4, who(), random.nextInt(4) == 0 ? 0 : 1);
            for (int i = 0; i < 12; i++) {
                like();
            }
            for (int i = 0; i < 3; i++) {
                int a = who();
                int b = who();
                int is = random.nextInt(2);
                due("swear(" + a + "," + b + "," + is + ")", x.swear(a, b, is), m.swear(a, b, is));
            }
        }

        private void look(int people) {
            moved += m.now(2) > 0 ? 1 : 0;
            for (int w = 0; w < 3; w++) {
                due("now(" + w + ")", x.now(w), m.now(w));
                due("oaths(" + w + ")", x.oaths(w), m.oaths(w));
            }
            for (int w = 0; w < 7; w++) {
                due("goOn(" + w + ")", x.goOn(w), m.goOn(w));
            }
            int set = random.nextInt(1 << people);
            for (int w = 0; w < 2; w++) {
                due("end(" + m.in + "," + w + ")", x.end(m.in, w), m.end(m.in, w));
                due("end(" + set + "," + w + ")", x.end(set, w), m.end(set, w));
                due("holds(" + w + ")", x.holds(w), m.holds(w));
            }
            due("safe()", x.safe(), m.safe());
            for (int a = 0; a < people; a++) {
                int b = random.nextInt(people);
                due("told(" + a + ",6)", x.told(a, 6), m.told(a, 6));
                due("sworn(" + a + ")", x.sworn(a), m.sworn(a));
                due("shield(" + a + "," + b + ")", x.shield(a, b), m.shield(a, b));
            }
            int seed = random.nextInt();
            int n = random.nextInt(31);
            due("drawn(" + seed + "," + n + ")", x.drawn(seed, n), m.drawn(seed, n));
            chance();
            writeWho();
        }

        private void due(String call, long got, long want) {
            left--;
            asked++;
            calls.add(call + " = " + got);
            if (got != want) {
                wrong++;
                System.out.println("run " + number + " call " + calls.size() + ": " + call
                    + " answered " + got + ", due is " + want);
                if (wrong == 1) {
                    System.out.println(calls);
                }
            }
        }

        /** Mostly one of 0 .. n - 1, at times one beside them, seldom any int. */
        private int near(int n) {
            int k = random.nextInt(60);
            if (k == 0) {
                return random.nextInt();
            }
            return k == 1 ? -1 : k == 2 ? n : random.nextInt(Math.max(1, n));
        }

        private int who() {
            return near(m.people.size());
        }

        private void inmate(int kind, int n) {
            due("inmate(" + kind + "," + n + ")", x.inmate(kind, n), m.inmate(kind, n));
        }

        private void like() {
            int a = who();
            int b = who();
            int v = near(10);
            due("like(" + a + "," + b + "," + v + ")", x.like(a, b, v), m.like(a, b, v));
        }

        private int aBand() {
            int bits = 0;
            List<Integer> in = m.list(m.in);
            for (int i = 0; i < m.needed && !in.isEmpty(); i++) {
                bits |= 1 << in.remove(random.nextInt(in.size()));
            }
            return random.nextInt(20) == 0 ? near(128) : bits;
        }

        private void call() {
            switch (random.nextInt(34)) {
                case 0 -> inmate(near(6), near(10));
                case 1 -> like();
                case 2 -> {
                    int a = who();
                    int b = who();
                    int v = random.nextInt(4) == 0 ? near(2) : 0;
                    due("swear(" + a + "," + b + "," + v + ")", x.swear(a, b, v), m.swear(a, b, v));
                }
                case 3, 4 -> set();
                case 5 -> {
                    int a = who();
                    int w = near(8);
                    due("told(" + a + "," + w + ")", x.told(a, w), m.told(a, w));
                }
                case 6 -> {
                    if (random.nextInt(4) == 0) {
                        writeText();
                    }
                }
                case 7 -> {
                    int t = near(m.texts.size());
                    due("force(" + t + ")", x.force(t), m.force(t));
                }
                case 8, 9 -> {
                    int band = aBand();
                    int o = who();
                    due("would(" + band + "," + o + ")", x.would(band, o), m.would(band, o));
                }
                case 10, 11 -> {
                    int w = near(3);
                    int want = m.now(w);
                    moved += want > 0 ? 1 : 0;
                    due("now(" + w + ")", x.now(w), want);
                }
                case 12 -> turnOut();
                case 13, 14 -> {
                    int w = near(7);
                    due("goOn(" + w + ")", x.goOn(w), m.goOn(w));
                }
                case 15, 16 -> {
                    int s = near(1 << m.people.size());
                    int w = near(2);
                    due("end(" + s + "," + w + ")", x.end(s, w), m.end(s, w));
                }
                case 17 -> due("safe()", x.safe(), m.safe());
                case 18, 19 -> {
                    int a = who();
                    due("sworn(" + a + ")", x.sworn(a), m.sworn(a));
                }
                case 20 -> {
                    int w = near(3);
                    due("oaths(" + w + ")", x.oaths(w), m.oaths(w));
                }
                case 21, 22 -> {
                    int a = who();
                    int b = who();
                    due("shield(" + a + "," + b + ")", x.shield(a, b), m.shield(a, b));
                }
                case 23 -> {
                    int w = near(2);
                    due("holds(" + w + ")", x.holds(w), m.holds(w));
                }
                case 24 -> {
                    int seed = random.nextInt();
                    int n = near(31);
                    due("drawn(" + seed + "," + n + ")", x.drawn(seed, n), m.drawn(seed, n));
                }
                case 25 -> chance();
                case 26 -> {
                    if (random.nextInt(3) == 0) {
                        due("image()", x.image(), m.image());
                    }
                }
                case 27 -> {
                    if (random.nextInt(2) == 0) {
                        due("back()", x.back(), m.back());
                    }
                }
                case 28 -> {
                    for (int w = -1; w < 10; w++) {
                        due("count(" + w + ")", x.count(w), m.count(w));
                    }
                }
                case 29 -> writeLikes();
                case 30 -> writeWho();
                case 31 -> host();
                case 32 -> {
                    int a = who();
                    int k = near(6);
                    due("taken(" + a + "," + k + ")", x.taken(a, k), m.taken(a, k));
                }
                default -> {
                    int b = near(256);
                    if (random.nextInt(20) == 0) {
                        due("feed(" + b + ")", x.feed(b), m.feed(b));
                    }
                }
            }
        }

        private void set() {
            int w = near(5);
            int of = who();
            int v = switch (w) {
                case 0 -> random.nextInt(3) == 0 ? near(10000) : near(900);
                case 1 -> 2 + near(4);
                case 2 -> random.nextInt(4) == 0 ? 990 + near(10) : near(1000);
                case 3 -> near(10);
                case 4 -> random.nextInt(3) == 0 ? near(2) : 1;
                default -> near(10);
            };
            due("set(" + w + "," + of + "," + v + ")", x.set(w, of, v), m.set(w, of, v));
        }

        private void turnOut() {
            int band = aBand();
            int o = who();
            if (random.nextBoolean() && m.now(0) != -1) {
                band = m.now(0);
                o = m.now(1);
            }
            if (random.nextInt(3) == 0) {
                due("turnOut(" + band + "," + o + ")", x.turnOut(band, o), m.turnOut(band, o));
            }
        }

        private void chance() {
            int seed = random.nextInt(5) == 0 ? Integer.MAX_VALUE - 3 : random.nextInt();
            int seeds = 1 + near(10);
            int n = near(31);
            int a = who();
            int part = near(2);
            due("chance(" + seed + "," + seeds + "," + n + "," + a + "," + part + ")",
                x.chance(seed, seeds, n, a, part), m.chance(seed, seeds, n, a, part));
        }

        private void sheet(int s, int sort, int n) {
            due("sheet(" + s + "," + sort + "," + n + ")", x.sheet(s, sort, n), m.sheet(s, sort, n));
        }

        private void cell(int s, int i, int v) {
            due("cell(" + s + "," + i + "," + v + ")", x.cell(s, i, v), m.cell(s, i, v));
        }

        private int whole(int v) {
            int k = random.nextInt(6);
            return k == 0 ? v + 256 : k == 1 ? v + 65536 : v;
        }

        private void writeLikes() {
            int s = near(4);
            int sort = random.nextInt(3);
            int n = random.nextInt(41);
            sheet(s, sort, n);
            for (int i = 0; i < n; i++) {
                cell(s, i, whole(i % 3 == 2 ? near(10) : who()));
            }
            likes(s, random.nextInt(8) == 0 ? near(3) : sort);
            for (int a = 0; a < m.people.size(); a++) {
                due("told(" + a + ",6)", x.told(a, 6), m.told(a, 6));
            }
        }

        private void likes(int s, int sort) {
            int from = near(5);
            int n = near(14);
            due("likes(" + s + "," + sort + "," + from + "," + n + ")",
                x.likes(s, sort, from, n), m.likes(s, sort, from, n));
        }

        private void writeWho() {
            int s = near(4);
            List<Integer> in = m.list(m.in);
            int n = random.nextInt(in.size() + 1);
            sheet(s, random.nextInt(3), n);
            Model later = m.thought();
            for (int i = 0; i < n; i++) {
                int goes = random.nextInt(4) > 0 && later.now(1) != -1 ? later.now(1)
                    : in.get(random.nextInt(in.size()));
                cell(s, i, random.nextInt(30) == 0 ? near(7) : goes);
                if (later.isIn(goes)) {
                    later.go(goes);
                    in.remove(Integer.valueOf(goes));
                }
            }
            for (int w = 0; w < 3; w++) {
                due("who(" + s + "," + w + ")", x.who(s, w), m.who(s, w));
            }
        }

        private void host() {
            int s = near(4);
            int t = near(4);
            switch (random.nextInt(6)) {
                case 0 -> sheet(s, near(4) - 1, near(41));
                case 1 -> cell(s, near(40), random.nextInt());
                case 2 -> likes(s, near(3));
                case 3 -> {
                    int w = near(3);
                    due("who(" + s + "," + w + ")", x.who(s, w), m.who(s, w));
                }
                default -> {
                    int i = near(20);
                    int j = near(20);
                    int n = near(20);
                    due("copy(" + s + "," + i + "," + t + "," + j + "," + n + ")",
                        x.copy(s, i, t, j, n), m.copy(s, i, t, j, n));
                }
            }
        }

        private void writeText() {
            if (m.count(7) > 0) {
                due("text()", x.text(), m.text());
            }
            StringBuilder b = new StringBuilder();
            b.append("company ").append(e(3)).append(";oath ").append(e(2)).append(" ; joins ")
                .append(e(2)).append(";");
            if (random.nextInt(3) == 0) {
                spoil(b);
            }
            if (b.length() > 160 && random.nextInt(8) > 0) {
                b.setLength(0);
                b.append("company like-").append(random.nextInt(9))
                    .append("*many; oath days ;joins one<other or many=4;");
            }
            for (int i = 0; i < b.length(); i++) {
                due("feed(" + (int) b.charAt(i) + ")", x.feed(b.charAt(i)), m.feed(b.charAt(i)));
            }
            due("text() of " + b, x.text(), m.text());
            int t = m.texts.size() - 1;
            due("force(" + t + ")", x.force(t), m.force(t));
        }

        private void spoil(StringBuilder b) {
            int at = random.nextInt(b.length());
            switch (random.nextInt(4)) {
                case 0 -> b.setCharAt(at, (char) random.nextInt(256));
                case 1 -> b.deleteCharAt(at);
                case 2 -> b.setLength(at);
                default -> b.insert(at, pick(" not ", "-", "(", ")", "<", "=", ";", "12345", " or ",
                    " joins ", "\t", "x", "- - - - - -", "((((((", "\n"));
            }
        }

        private String pick(String... all) {
            return all[random.nextInt(all.length)];
        }

        private String e(int deep) {
            if (deep == 0 || random.nextInt(3) == 0) {
                return pick("like", "many", "share", "days", "one", "other",
                    Integer.toString(random.nextInt(30)), Integer.toString(random.nextInt(10000)));
            }
            String a = e(deep - 1);
            String b = e(deep - 1);
            return switch (random.nextInt(12)) {
                case 0 -> a + "+" + b;
                case 1 -> a + "-" + b;
                case 2 -> a + "*" + b;
                case 3 -> a + "<" + b;
                case 4 -> a + "=" + b;
                case 5 -> a + " or " + b;
                case 6 -> a + " and " + b;
                case 7 -> "not " + a;
                case 8 -> "-" + a;
                case 9 -> "(" + a + ")*" + b;
                case 10 -> "(" + a + " - " + b + ")";
                default -> "(" + a + ")";
            };
        }
    }

    /** A person, by kind. */
    private static class Inmate {
        int number;

        int brings(int n) {
            return 0;
        }

        int wants(int n, boolean breaks) {
            return 1;
        }

        int kind() {
            return 0;
        }

        static Inmate of(int kind, int number) {
            Inmate i = switch (kind) {
                case 1 -> new Cook();
                case 2 -> new Shy();
                case 3 -> new Baker();
                case 4 -> new Proud();
                case 5 -> new Snorer();
                default -> new Inmate();
            };
            i.number = number;
            return i;
        }
    }

    private static class Cook extends Inmate {
        @Override int brings(int n) {
            return number + n;
        }

        @Override int wants(int n, boolean breaks) {
            return super.wants(n, breaks) + n;
        }

        @Override int kind() {
            return 1;
        }
    }

    private static class Shy extends Inmate {
        @Override int brings(int n) {
            return n < 4 ? number : super.brings(n);
        }

        @Override int wants(int n, boolean breaks) {
            return super.wants(n, breaks) + number;
        }

        @Override int kind() {
            return 2;
        }
    }

    private static final class Baker extends Cook {
        @Override int brings(int n) {
            return 2 * super.brings(n);
        }

        @Override int wants(int n, boolean breaks) {
            return breaks ? super.wants(n, breaks) : 0;
        }

        @Override int kind() {
            return 3;
        }
    }

    private static final class Proud extends Shy {
        @Override int brings(int n) {
            return super.brings(n) - 3;
        }

        @Override int wants(int n, boolean breaks) {
            return breaks ? 2 * super.wants(n, breaks) : super.wants(n, breaks);
        }

        @Override int kind() {
            return 4;
        }
    }

    private static final class Snorer extends Cook {
        @Override int brings(int n) {
            return super.brings(n) - 12;
        }

        @Override int wants(int n, boolean breaks) {
            return super.wants(n, breaks) - 5;
        }

        @Override int kind() {
            return 5;
        }
    }

    private static final class Fault extends RuntimeException {
        private static final long serialVersionUID = 1L;
        final int place;

        Fault(int place) {
            super("", null, false, false);
            this.place = place;
        }
    }

    private interface Node {
        int of(int[] facts);
    }

    /** Reads a text token by token, as the document's grammar goes. */
    private static final class Parser {
        static final List<String> NAMES = List.of("like", "many", "share", "days", "one", "other");
        static final List<String> KEYS = List.of("company", "oath", "joins", "or", "and", "not");
        final String s;
        int at = 0;
        int open = 0;
        String token;

        Parser(String s) {
            this.s = s;
            look();
        }

        /** The token at hand is "" at the end and null where none can begin. */
        void look() {
            while (at < s.length() && (s.charAt(at) == 32 || s.charAt(at) == 10)) {
                at++;
            }
            String rest = s.substring(at);
            String word = longest(rest, "[a-z]+");
            String digits = longest(rest, "[0-9]+");
            if (rest.isEmpty()) {
                token = "";
            } else if (!word.isEmpty()) {
                token = NAMES.contains(word) || KEYS.contains(word) ? word : null;
            } else if (!digits.isEmpty()) {
                token = digits.length() <= 4 ? digits : null;
            } else {
                String sign = rest.substring(0, 1);
                token = "();+-*<=".contains(sign) ? sign : null;
            }
        }

        static String longest(String s, String pattern) {
            java.util.regex.Matcher m = java.util.regex.Pattern.compile(pattern).matcher(s);
            return m.lookingAt() ? m.group() : "";
        }

        boolean is(String t) {
            return t.equals(token);
        }

        void next() {
            at += token.length();
            look();
        }

        void want(String t) {
            if (!is(t)) {
                throw new Fault(at);
            }
            next();
        }

        Node[] text() {
            Node[] parts = new Node[3];
            for (int i = 0; i < 3; i++) {
                want(KEYS.get(i));
                parts[i] = e();
                want(";");
            }
            if (!is("")) {
                throw new Fault(at);
            }
            return parts;
        }

        Node e() {
            Node left = and();
            while (is("or")) {
                next();
                Node a = left;
                Node b = and();
                left = f -> a.of(f) != 0 | b.of(f) != 0 ? 1 : 0;
            }
            return left;
        }

        Node and() {
            Node left = not();
            while (is("and")) {
                next();
                Node a = left;
                Node b = not();
                left = f -> a.of(f) != 0 & b.of(f) != 0 ? 1 : 0;
            }
            return left;
        }

        void open() {
            if (open == 5) {
                throw new Fault(at);
            }
            open++;
            next();
        }

        Node not() {
            if (is("not")) {
                open();
                Node a = not();
                open--;
                return f -> a.of(f) == 0 ? 1 : 0;
            }
            Node a = sum();
            if (is("<")) {
                next();
                Node b = sum();
                return f -> a.of(f) < b.of(f) ? 1 : 0;
            }
            if (is("=")) {
                next();
                Node b = sum();
                return f -> a.of(f) == b.of(f) ? 1 : 0;
            }
            return a;
        }

        Node sum() {
            Node left = term();
            while (is("+") || is("-")) {
                boolean plus = is("+");
                next();
                Node a = left;
                Node b = term();
                left = f -> plus ? a.of(f) + b.of(f) : a.of(f) - b.of(f);
            }
            return left;
        }

        Node term() {
            Node left = one();
            while (is("*")) {
                next();
                Node a = left;
                Node b = one();
                left = f -> a.of(f) * b.of(f);
            }
            return left;
        }

        Node one() {
            if (token == null || token.isEmpty()) {
                throw new Fault(at);
            }
            if (NAMES.contains(token)) {
                int k = NAMES.indexOf(token);
                next();
                return f -> f[k];
            }
            if (Character.isDigit(token.charAt(0))) {
                int v = Integer.parseInt(token);
                next();
                return f -> v;
            }
            if (is("-")) {
                open();
                Node a = one();
                open--;
                return f -> -a.of(f);
            }
            if (is("(")) {
                open();
                Node a = e();
                want(")");
                open--;
                return a;
            }
            throw new Fault(at);
        }
    }

    /** The document, word by word. */
    private static final class Model {
        static final int BAD = -2;
        static final int[] ABOVE = {-1, 0, 0, 1, 2, 1};
        List<Inmate> people = new ArrayList<>();
        int in;
        int[][] likes = new int[7][7];
        boolean[][] sworn = new boolean[7][7];
        int rent = 100;
        int needed = 3;
        int day;
        int rule;
        Model kept;
        String tape = "";
        List<Node[]> texts = new ArrayList<>();
        int[] sorts = {-1, -1, -1, -1};
        int[][] sheets = new int[4][];

        Model() {
            texts.add(new Parser("company like ; oath 20 ; joins like < 9 ;").text());
        }

        Model thought() {
            Model t = new Model();
            t.texts = texts;
            t.take(this);
            return t;
        }

        void take(Model m) {
            people = new ArrayList<>();
            for (Inmate i : m.people) {
                people.add(Inmate.of(i.kind(), i.number));
            }
            in = m.in;
            for (int i = 0; i < 7; i++) {
                likes[i] = m.likes[i].clone();
                sworn[i] = m.sworn[i].clone();
            }
            rent = m.rent;
            needed = m.needed;
            day = m.day;
            rule = m.rule;
        }

        List<Integer> list(int bits) {
            List<Integer> l = new ArrayList<>();
            for (int i = 0; i < 32; i++) {
                if ((bits >>> i & 1) == 1) {
                    l.add(i);
                }
            }
            return l;
        }

        boolean known(int one) {
            return one >= 0 && one < people.size();
        }

        boolean isIn(int one) {
            return known(one) && (in >>> one & 1) == 1;
        }

        void go(int one) {
            in &= ~(1 << one);
            day = Math.min(999, day + 1);
        }

        int inmate(int kind, int number) {
            if (kind < 0 || kind > 5 || number < 0 || number > 9) {
                return BAD;
            }
            if (people.size() == 7) {
                return -4;
            }
            int me = people.size();
            people.add(Inmate.of(kind, number));
            in |= 1 << me;
            for (int i = 0; i < 7; i++) {
                likes[me][i] = likes[i][me] = 5;
                sworn[me][i] = sworn[i][me] = false;
            }
            return me;
        }

        int like(int a, int b, int v) {
            if (!known(a) || !known(b) || a == b || v < 0 || v > 9) {
                return BAD;
            }
            int was = likes[a][b];
            likes[a][b] = v;
            return was;
        }

        int swear(int a, int b, int is) {
            if (!known(a) || !known(b) || a == b || is < 0 || is > 1) {
                return BAD;
            }
            int was = sworn[a][b] ? 1 : 0;
            sworn[a][b] = sworn[b][a] = is == 1;
            return was;
        }

        int set(int what, int of, int v) {
            int was;
            if (what == 0 && v >= 0 && v <= 9999) {
                was = rent;
                rent = v;
            } else if (what == 1 && v >= 2 && v <= 5) {
                was = needed;
                needed = v;
            } else if (what == 2 && v >= 0 && v <= 999) {
                was = day;
                day = v;
            } else if (what == 3 && known(of) && v >= 0 && v <= 9) {
                was = people.get(of).number;
                people.get(of).number = v;
            } else if (what == 4 && known(of) && (v == 0 || v == 1)) {
                was = in >>> of & 1;
                in = in & ~(1 << of) | v << of;
            } else {
                was = BAD;
            }
            return was;
        }

        int told(int one, int what) {
            if (!known(one)) {
                return -100000;
            }
            int n = Integer.bitCount(in);
            Inmate i = people.get(one);
            int bits = 0;
            for (int o = 0; o < 7; o++) {
                bits |= sworn[one][o] ? 1 << o : 0;
            }
            return switch (what) {
                case 0 -> i.kind();
                case 1 -> i.number;
                case 2 -> isIn(one) ? 1 : 0;
                case 3 -> i.brings(n);
                case 4 -> wants(one, n, false);
                case 5 -> wants(one, n, true);
                case 6 -> isIn(one) ? good(one, in) : 0;
                case 7 -> bits;
                default -> -100000;
            };
        }

        int wants(int one, int n, boolean breaks) {
            return Math.max(0, people.get(one).wants(n, breaks));
        }

        int feed(int b) {
            if (b < 0 || b > 255) {
                return BAD;
            }
            if (tape.length() == 160) {
                return -4;
            }
            tape += (char) b;
            return tape.length();
        }

        int text() {
            if (texts.size() == 6) {
                return -4;
            }
            String s = tape;
            tape = "";
            try {
                texts.add(new Parser(s).text());
                return texts.size() - 1;
            } catch (Fault f) {
                return -100 - f.place;
            }
        }

        int force(int t) {
            if (t < 0 || t >= texts.size()) {
                return BAD;
            }
            int was = rule;
            rule = t;
            return was;
        }

        int tell(int part, int one, int other, int n) {
            int[] facts = {likes[one][other], n, rent / n, day, one, other};
            int v = texts.get(rule)[part].of(facts);
            return part == 0 ? Math.max(-99, Math.min(99, v))
                : part == 1 ? Math.max(0, Math.min(99, v)) : v;
        }

        int good(int one, int set) {
            int n = Integer.bitCount(set);
            int g = rent / n;
            for (int o : list(set)) {
                if (o != one) {
                    g += tell(0, one, o, n) + people.get(o).brings(n);
                }
            }
            return g;
        }

        boolean joins(int one, int other, int set, int after) {
            int n = Integer.bitCount(set);
            boolean breaks = sworn[one][other];
            int then = good(one, after) - (breaks ? tell(1, one, other, n) : 0);
            return tell(2, one, other, n) != 0
                && then - good(one, set) >= wants(one, n, breaks);
        }

        boolean would(int set, int band, int other) {
            for (int one : list(band)) {
                if (!joins(one, other, set, set & ~(1 << other))) {
                    return false;
                }
            }
            return true;
        }

        /** All bands of a set and others whom they would turn out, by bits, then the other one. */
        List<int[]> all(int set) {
            List<int[]> l = new ArrayList<>();
            for (int band = 0; band < 128; band++) {
                if ((band & ~set) == 0 && Integer.bitCount(band) == needed) {
                    for (int o : list(set & ~band)) {
                        if (would(set, band, o)) {
                            l.add(new int[] {band, o});
                        }
                    }
                }
            }
            return l;
        }

        boolean badBand(int band, int other) {
            return (band & ~in) != 0 || Integer.bitCount(band) != needed || !isIn(other)
                || (band >>> other & 1) == 1;
        }

        int would(int band, int other) {
            return badBand(band, other) ? BAD : would(in, band, other) ? 1 : 0;
        }

        int now(int what) {
            if (what < 0 || what > 2) {
                return BAD;
            }
            List<int[]> l = all(in);
            return what == 2 ? l.size() : l.isEmpty() ? -1 : l.get(0)[what];
        }

        int turnOut(int band, int other) {
            if (badBand(band, other)) {
                return BAD;
            }
            if (!would(in, band, other)) {
                return -3;
            }
            go(other);
            return Integer.bitCount(in);
        }

        int goOn(int what) {
            if (what < 0 || what > 6) {
                return BAD;
            }
            Model t = thought();
            List<Integer> went = new ArrayList<>();
            for (int o = t.now(1); o != -1; o = t.now(1)) {
                went.add(o);
                t.go(o);
            }
            return what == 0 ? t.in : what == 1 ? went.size()
                : what - 2 < went.size() ? went.get(what - 2) : -1;
        }

        int end(int set, int what) {
            if (set < 0 || set >= 1 << people.size() || what < 0 || what > 1) {
                return BAD;
            }
            return ends(set, new int[128][])[what];
        }

        int[] ends(int set, int[][] known) {
            if (known[set] != null) {
                return known[set];
            }
            int[] answer = {set, -1};
            search:
            for (int band = 0; band < 128; band++) {
                if ((band & ~set) != 0 || Integer.bitCount(band) != needed) {
                    continue;
                }
                for (int o : list(set & ~band)) {
                    int after = ends(set & ~(1 << o), known)[0];
                    boolean all = (band & ~after) == 0;
                    for (int one : list(band)) {
                        all = all && joins(one, o, set, after);
                    }
                    if (all) {
                        answer = new int[] {after, o};
                        break search;
                    }
                }
            }
            known[set] = answer;
            return answer;
        }

        int safe() {
            int bits = in;
            for (int[] pair : all(in)) {
                bits &= ~(1 << pair[1]);
            }
            return bits;
        }

        int sworn(int one) {
            if (!isIn(one) || (safe() >>> one & 1) == 1) {
                return BAD;
            }
            for (int o : list(in)) {
                if (o != one && !sworn[one][o]) {
                    Model t = thought();
                    t.swear(one, o, 1);
                    if ((t.safe() >>> one & 1) == 1) {
                        return o;
                    }
                }
            }
            return -1;
        }

        boolean rests() {
            return all(in).isEmpty();
        }

        List<int[]> freePairs() {
            List<int[]> l = new ArrayList<>();
            for (int a : list(in)) {
                for (int b : list(in)) {
                    if (a < b && !sworn[a][b]) {
                        l.add(new int[] {a, b});
                    }
                }
            }
            return l;
        }

        int oaths(int what) {
            return what < 0 || what > 2 ? BAD : oathsFound()[what];
        }

        int[] oathsFound() {
            if (rests()) {
                return new int[] {0, -1, -1};
            }
            Model t = thought();
            List<int[]> pairs = freePairs();
            for (int[] p : pairs) {
                t.swear(p[0], p[1], 1);
                if (t.rests()) {
                    return new int[] {1, 10 * p[0] + p[1], -1};
                }
                t.swear(p[0], p[1], 0);
            }
            for (int[] p : pairs) {
                t.swear(p[0], p[1], 1);
                for (int[] q : pairs) {
                    if (10 * q[0] + q[1] <= 10 * p[0] + p[1]) {
                        continue;
                    }
                    t.swear(q[0], q[1], 1);
                    if (t.rests()) {
                        return new int[] {2, 10 * p[0] + p[1], 10 * q[0] + q[1]};
                    }
                    t.swear(q[0], q[1], 0);
                }
                t.swear(p[0], p[1], 0);
            }
            return new int[] {-1, -1, -1};
        }

        int shield(int one, int other) {
            if (!isIn(one) || !known(other) || isIn(other)) {
                return BAD;
            }
            Model t = thought();
            t.in |= 1 << other;
            return t.safe() >>> one & 1;
        }

        int holds(int what) {
            if (what < 0 || what > 1) {
                return BAD;
            }
            Model t = thought();
            if (what == 0) {
                for (t.needed = 2; t.needed <= 5; t.needed++) {
                    if (t.rests()) {
                        return t.needed;
                    }
                }
                return -1;
            }
            for (t.rent = 0; t.rent <= 990; t.rent += 10) {
                if (!t.rests()) {
                    return t.rent;
                }
            }
            return -1;
        }

        int who(int s, int what) {
            if (s < 0 || s > 3 || what < 0 || what > 2) {
                return BAD;
            }
            if (sheets[s] == null) {
                return -11;
            }
            if (sheets[s].length == 0) {
                return BAD;
            }
            Model t = thought();
            int[] answer = {0, -1, -1};
            for (int i = 0; i < sheets[s].length; i++) {
                int goes = sheets[s][i];
                if (!t.isIn(goes)) {
                    return BAD;
                }
                answer[0] = 0;
                answer[1] = -1;
                for (int[] pair : t.all(t.in)) {
                    if (pair[1] == goes) {
                        answer[0]++;
                        answer[1] = answer[0] == 1 ? pair[0] : answer[1];
                    }
                }
                if (answer[0] == 0 && answer[2] == -1) {
                    answer[2] = i;
                }
                t.go(goes);
            }
            return answer[what];
        }

        int drawn(int seed, int n) {
            if (n < 0 || n > 30) {
                return BAD;
            }
            Model t = thought();
            int z = seed;
            for (int i = 0; i < n; i++) {
                z = z * 1103515245 + 12345;
                t.meet(z >>> 9);
                t.day = Math.min(999, t.day + 1);
            }
            return t.in;
        }

        void meet(int number) {
            List<Integer> sets = new ArrayList<>();
            for (int s = 0; s < 128; s++) {
                if ((s & ~in) == 0 && Integer.bitCount(s) == needed + 1) {
                    sets.add(s);
                }
            }
            if (sets.isEmpty()) {
                return;
            }
            int meeting = sets.get(number % sets.size());
            for (int band = 0; band < 128; band++) {
                int rest = meeting & ~band;
                if ((band & ~meeting) == 0 && Integer.bitCount(rest) == 1
                    && would(in, band, Integer.numberOfTrailingZeros(rest))) {
                    in &= ~rest;
                    return;
                }
            }
        }

        long chance(int seed, int seeds, int n, int one, int part) {
            if (seeds < 1 || seeds > 10 || n < 0 || n > 30 || !known(one) || part < 0 || part > 1) {
                return -4611686018427387904L;
            }
            int above = 0;
            for (int i = 0; i < seeds; i++) {
                above += drawn(seed + i, n) >>> one & 1;
            }
            int gcd = java.math.BigInteger.valueOf(above)
                .gcd(java.math.BigInteger.valueOf(seeds)).intValue();
            return part == 0 ? above / gcd : seeds / gcd;
        }

        int image() {
            kept = thought();
            return people.size();
        }

        int back() {
            if (kept == null) {
                return -3;
            }
            take(kept);
            return people.size();
        }

        int count(int what) {
            int pairs = 0;
            for (int a = 0; a < people.size(); a++) {
                for (int b = 0; b < a; b++) {
                    pairs += sworn[a][b] ? 1 : 0;
                }
            }
            int[] all = {people.size(), Integer.bitCount(in), pairs, rent, needed, day, texts.size(),
                tape.length(), rule};
            return what < 0 || what > 8 ? BAD : all[what];
        }

        int sheet(int s, int sort, int n) {
            if (s < 0 || s > 3 || sort < -1 || sort > 2) {
                return BAD;
            }
            if (sort != -1 && n > 40) {
                return BAD;
            }
            if (sort != -1 && n < 0) {
                return -14;
            }
            sorts[s] = sort;
            sheets[s] = sort == -1 ? null : new int[n];
            return 1;
        }

        int cell(int s, int i, int v) {
            if (s < 0 || s > 3) {
                return BAD;
            }
            if (sheets[s] == null) {
                return -11;
            }
            if (i < 0 || i >= sheets[s].length) {
                return -12;
            }
            sheets[s][i] = sorts[s] == 0 ? (byte) v : sorts[s] == 1 ? (short) v : v;
            return 1;
        }

        int copy(int s, int i, int t, int j, int n) {
            if (s < 0 || s > 3 || t < 0 || t > 3) {
                return BAD;
            }
            if (sheets[s] == null || sheets[t] == null) {
                return -11;
            }
            if (sorts[s] != sorts[t]) {
                return -13;
            }
            if (i < 0 || j < 0 || n < 0 || (long) i + n > sheets[s].length
                || (long) j + n > sheets[t].length) {
                return -12;
            }
            int[] were = Arrays.copyOfRange(sheets[s], i, i + n);
            for (int k = 0; k < n; k++) {
                sheets[t][j + k] = were[k];
            }
            return n;
        }

        int likes(int s, int sort, int from, int n) {
            if (s < 0 || s > 3 || sort < 0 || sort > 2 || n < 0 || n > 13) {
                return BAD;
            }
            if (sorts[s] != -1 && sorts[s] != sort) {
                return -13;
            }
            if (sheets[s] == null) {
                return -11;
            }
            int became = 0;
            for (int k = 0; k < n; k++) {
                long at = (long) from + 3 * k;
                if (at < 0 || at + 2 >= sheets[s].length) {
                    return -12;
                }
                int i = (int) at;
                became += like(sheets[s][i], sheets[s][i + 1], sheets[s][i + 2]) == BAD ? 0 : 1;
            }
            return became;
        }

        int taken(int one, int k) {
            if (k < 0 || k > 5) {
                return BAD;
            }
            if (!known(one)) {
                return -11;
            }
            for (int kind = people.get(one).kind(); kind != -1; kind = ABOVE[kind]) {
                if (kind == k) {
                    return people.get(one).number;
                }
            }
            return -13;
        }
    }
}
