/** Each promise by itself: ordinary inputs, the edges that the document names, wrong inputs. */
public final class PromiseTest extends Checks {
    public static void main(String[] args) {
        newObject();
        inmate();
        like();
        swear();
        set();
        told();
        feed();
        textFaults();
        textDepth();
        textValues();
        textClamps();
        textRoom();
        force();
        would();
        now();
        turnOut();
        goOn();
        end();
        safeAndSworn();
        oaths();
        shield();
        holds();
        who();
        drawn();
        chance();
        imageAndBack();
        count();
        sheet();
        cell();
        copy();
        likes();
        taken();
        finish();
    }

    private static void newObject() {
        ThreeOfThem x = new ThreeOfThem();
        int[] first = {0, 0, 0, 100, 3, 0, 1, 0, 0};
        for (int i = 0; i < first.length; i++) {
            due("new count(" + i + ")", x.count(i), first[i]);
        }
        for (int i = 0; i < 4; i++) {
            due("new cell(" + i + ")", x.cell(i, 0, 0), MISSING);
        }
        due("new back()", x.back(), STATE);
        due("NONE", ThreeOfThem.NONE, NONE);
        due("BAD", ThreeOfThem.BAD, BAD);
        due("STATE", ThreeOfThem.STATE, STATE);
        due("FULL", ThreeOfThem.FULL, FULL);
        due("NO", ThreeOfThem.NO, NO);
    }

    private static void inmate() {
        ThreeOfThem x = new ThreeOfThem();
        due("inmate(-1,0)", x.inmate(-1, 0), BAD);
        due("inmate(6,0)", x.inmate(6, 0), BAD);
        due("inmate(0,-1)", x.inmate(0, -1), BAD);
        due("inmate(0,10)", x.inmate(0, 10), BAD);
        due("inmate(MIN,MAX)", x.inmate(MIN, MAX), BAD);
        due("none came", x.count(0), 0);
        for (int i = 0; i < 7; i++) {
            due("inmate " + i, x.inmate(i % 6, 9 - i), i);
            due("is in", x.told(i, 2), 1);
            due("kind", x.told(i, 0), i % 6);
            due("number", x.told(i, 1), 9 - i);
        }
        due("an eighth", x.inmate(0, 0), FULL);
        due("an eighth of no kind", x.inmate(6, 0), BAD);
        due("seven", x.count(0), 7);
    }

    private static void like() {
        ThreeOfThem x = plain(2);
        due("like(0,1,9)", x.like(0, 1, 9), 5);
        due("like(0,1,0)", x.like(0, 1, 0), 9);
        due("like(1,0,3)", x.like(1, 0, 3), 5);
        due("like(0,1,5)", x.like(0, 1, 5), 0);
        due("alike", x.like(1, 1, 5), BAD);
        due("none such", x.like(2, 0, 5), BAD);
        due("none such", x.like(0, 2, 5), BAD);
        due("none such", x.like(-1, 0, 5), BAD);
        due("none such", x.like(0, -1, 5), BAD);
        due("v", x.like(0, 1, -1), BAD);
        due("v", x.like(0, 1, 10), BAD);
        due("as it was", x.like(0, 1, 5), 5);
        x.set(4, 0, 0);
        due("of one out", x.like(0, 1, 6), 5);
    }

    private static void swear() {
        ThreeOfThem x = plain(3);
        due("swear(2,0,1)", x.swear(2, 0, 1), 0);
        due("both ways", x.swear(0, 2, 1), 1);
        due("told 0", x.told(0, 7), 4);
        due("told 2", x.told(2, 7), 1);
        due("told 1", x.told(1, 7), 0);
        due("alike", x.swear(1, 1, 1), BAD);
        due("none such", x.swear(3, 0, 1), BAD);
        due("none such", x.swear(0, 3, 1), BAD);
        due("none such", x.swear(-1, 0, 1), BAD);
        due("is 2", x.swear(0, 1, 2), BAD);
        due("is -1", x.swear(0, 1, -1), BAD);
        due("broken", x.swear(0, 2, 0), 1);
        due("no more", x.swear(2, 0, 0), 0);
        due("count", x.count(2), 0);
    }

    private static void set() {
        ThreeOfThem x = plain(1);
        due("rent", x.set(0, MIN, 9999), 100);
        due("rent", x.set(0, 9, 0), 9999);
        due("rent", x.set(0, 0, -1), BAD);
        due("rent", x.set(0, 0, 10000), BAD);
        due("needed", x.set(1, MAX, 5), 3);
        due("needed", x.set(1, 0, 2), 5);
        due("needed", x.set(1, 0, 1), BAD);
        due("needed", x.set(1, 0, 6), BAD);
        due("day", x.set(2, -1, 999), 0);
        due("day", x.set(2, 0, 0), 999);
        due("day", x.set(2, 0, -1), BAD);
        due("day", x.set(2, 0, 1000), BAD);
        due("number", x.set(3, 0, 9), 0);
        due("number", x.set(3, 0, 0), 9);
        due("number", x.set(3, 0, 10), BAD);
        due("number", x.set(3, 0, -1), BAD);
        due("number of none", x.set(3, 1, 1), BAD);
        due("number of none", x.set(3, -1, 1), BAD);
        due("in", x.set(4, 0, 0), 1);
        due("in", x.set(4, 0, 1), 0);
        due("in", x.set(4, 0, 2), BAD);
        due("in", x.set(4, 0, -1), BAD);
        due("in of none", x.set(4, 1, 1), BAD);
        due("in of none", x.set(4, -1, 1), BAD);
        due("what", x.set(5, 0, 0), BAD);
        due("what", x.set(-1, 0, 0), BAD);
        due("rent is", x.count(3), 0);
        due("needed is", x.count(4), 2);
        due("day is", x.count(5), 0);
        due("in is", x.count(1), 1);
    }

    private static void told() {
        int[][] brings = {{0, 0}, {12, 13}, {9, 0}, {24, 26}, {6, -3}, {0, 1}};
        int[][] wants = {{1, 1}, {4, 5}, {10, 10}, {0, 0}, {10, 10}, {0, 0}};
        int[][] wantsBreaking = {{1, 1}, {4, 5}, {10, 10}, {4, 5}, {20, 20}, {0, 0}};
        for (int kind = 0; kind < 6; kind++) {
            ThreeOfThem x = plain(2);
            x.inmate(kind, 9);
            for (int more = 0; more < 2; more++) {
                due("brings " + kind, x.told(2, 3), brings[kind][more]);
                due("wants " + kind, x.told(2, 4), wants[kind][more]);
                due("wants, breaking " + kind, x.told(2, 5), wantsBreaking[kind][more]);
                x.inmate(0, 0);
            }
        }
        ThreeOfThem x = plain(6);
        x.inmate(5, 0);
        due("a snorer of seven wants", x.told(6, 4), 3);
        due("good of a plain one", x.told(0, 6), 14 + 6 * 5 - 5);
        due("good of the snorer", x.told(6, 6), 14 + 6 * 5);
        x.set(4, 6, 0);
        due("out", x.told(6, 2), 0);
        due("good of one out", x.told(6, 6), 0);
        due("what one out would bring", x.told(6, 3), -6);
        due("good", x.told(0, 6), 16 + 5 * 5);
        due("none", x.told(7, 0), UNTOLD);
        due("none", x.told(-1, 0), UNTOLD);
        due("what", x.told(0, 8), UNTOLD);
        due("what", x.told(0, -1), UNTOLD);
        ThreeOfThem y = new ThreeOfThem();
        due("none in an empty house", y.told(0, 0), UNTOLD);
    }

    private static void feed() {
        ThreeOfThem x = new ThreeOfThem();
        due("feed(-1)", x.feed(-1), BAD);
        due("feed(256)", x.feed(256), BAD);
        for (int i = 1; i <= 160; i++) {
            due("feed", x.feed(i % 256), i);
        }
        due("one more", x.feed(0), FULL);
        due("one more, a bad one", x.feed(256), BAD);
        due("bytes", x.count(7), 160);
        due("a fault at the first", x.text(), -100);
        due("empty", x.count(7), 0);
    }

    private static void fault(String text, int place) {
        ThreeOfThem x = new ThreeOfThem();
        due("text() of [" + text + "]", read(x, text), place < 0 ? 1 : -100 - place);
        due("texts", x.count(6), place < 0 ? 2 : 1);
        due("tape", x.count(7), 0);
    }

    private static void textFaults() {
        fault("", 0);
        fault("  \n ", 4);
        fault("company 1;oath 2;joins 3;", -1);
        fault(" \ncompany\n1 ; oath 2 ; joins 3 ; \n", -1);
        fault("company1;oath2;joins3;", -1);
        fault("company 1;oath 2;joins 3", 24);
        fault("company 1;oath 2;joins 3 ", 25);
        fault("company 1;oath 2;joins 3;;", 25);
        fault("company 1;oath 2;joins 3; x", 26);
        fault("company 1;joins 3;oath 2;", 10);
        fault("oath 2;", 0);
        fault("companylike;", 0);
        fault("company like like;oath 2;joins 3;", 13);
        fault("company 12345;oath 2;joins 3;", 8);
        fault("company 1234;oath 0000;joins 0123;", -1);
        fault("company 12like;", 10);
        fault("company lik;", 8);
        fault("company likes;", 8);
        fault("company Like;", 8);
        fault("company like\t;", 12);
        fault("company like" + (char) 0 + ";", 12);
        fault("company like" + (char) 255 + ";", 12);
        fault("company ;", 8);
        fault("company 1 + ;", 12);
        fault("company 1 + + 2;", 12);
        fault("company 1 - - 2;oath 2;joins 3;", -1);
        fault("company 1 + not 2;", 12);
        fault("company 1 < not 2;", 12);
        fault("company 1 < 2 < 3;", 14);
        fault("company 1 < 2 = 3;", 14);
        fault("company (1 < 2) < 3;oath 2;joins 3;", -1);
        fault("company not not 1 < 2 and not 3;oath 2;joins 3;", -1);
        fault("company 1 or;", 12);
        fault("company or 1;", 8);
        fault("company 1 and and 2;", 14);
        fault("company (1;", 10);
        fault("company 1);", 9);
        fault("company ();", 9);
        fault("company (1", 10);
        fault("company company;", 8);
        fault("company not;", 11);
        fault("company -;", 9);
        fault("company - not 1;", 10);
        fault("company not - 1 ;oath 2;joins 3;", -1);
        fault("company 1 * * 2;", 12);
        fault("company *;", 8);
        fault("company 1 2;", 10);
        fault("company 1 (2);", 10);
        fault("company 99999 x", 8);
        fault("company 1 x 99999", 10);
        fault("company 1 / 2", 10);
        fault("company\t1", 7);
        fault("company pike;", 8);
        fault("company likez;", 8);
        fault("company zlike;", 8);
        fault("company alike;", 8);
        fault("company `;", 8);
        fault("company {;", 8);
        fault("company /;", 8);
        fault("company :;", 8);
        fault("company 09;oath 90;joins 0;", -1);
        fault(";".repeat(160), 0);
        fault("company 1" + "+1".repeat(75) + ";", 160);
        fault("company 1" + "+1".repeat(75) + "2", 160);
        fault("company 1" + "+1".repeat(73) + "+like", 160);
        fault("company" + " ".repeat(152) + "1", 160);
        fault("company " + "(".repeat(152), 13);
        fault("company 1" + "+1".repeat(66) + ";oath 1;joins 1;   ", -1);
        ThreeOfThem x = new ThreeOfThem();
        due("a longer one", read(x, "company likelike"), -108);
        due("nothing of it stays", read(x, "company like"), -112);
        due("a longer one", read(x, "company 11111"), -108);
        due("nothing of it stays", read(x, "company 1111"), -112);
    }

    private static void textDepth() {
        String rest = ";oath 2;joins 3;";
        fault("company (((((1)))))" + rest, -1);
        fault("company ((((((1))))))" + rest, 13);
        fault("company -----1" + rest, -1);
        fault("company ------1" + rest, 13);
        fault("company not not not not not 1" + rest, -1);
        fault("company not not not not not not 1" + rest, 28);
        fault("company not(-(-1))" + rest, -1);
        fault("company not(-(-(1)))" + rest, 15);
        fault("company not(-(--1))" + rest, 15);
        fault("company ((((1))))+(((((1)))))" + rest, -1);
        fault("company -----1*-----1+-----1" + rest, -1);
        fault("company not not not not not 1 and not not not not not 1" + rest, -1);
        fault("company ((((-1+-1*-1))))" + rest, -1);
        fault("company ((((-1+--1))))" + rest, 16);
        fault("company (((((1-1)))))" + rest, -1);
        fault("company (((((-1)))))" + rest, 13);
        fault("company (((((not 1)))))" + rest, 13);
        fault("company not not not not not 1 - 1" + rest, -1);
        fault("company not not not not not -1" + rest, 28);
        fault("company (((((1)))))-(((((1)))))" + rest, -1);
        fault("company ((((((((" + rest, 13);
    }

    /** What company is worth to 0 of two, whose other one is 1, the rent being 100 by 2. */
    private static int company(String e) {
        ThreeOfThem x = plain(2);
        x.like(0, 1, 7);
        x.set(2, 0, 6);
        rule(x, "company " + e + ";oath 0;joins 0;");
        return x.told(0, 6) - 50;
    }

    private static void value(String e, int want) {
        due("company " + e, company(e), want);
    }

    private static void textValues() {
        value("like", 7);
        value("many", 2);
        value("share", 50);
        value("days", 6);
        value("one", 0);
        value("other", 1);
        value("2+3*4", 14);
        value("(2+3)*4", 20);
        value("9-3-2", 4);
        value("9-(3-2)", 8);
        value("-2*3", -6);
        value("--2", 2);
        value("-(2+3)", -5);
        value("5--2", 7);
        value("1<2", 1);
        value("2<2", 0);
        value("3<2", 0);
        value("-1<0", 1);
        value("2=2", 1);
        value("2=3", 0);
        value("1+1=2", 1);
        value("5 and 7", 1);
        value("5 and 0", 0);
        value("0 and 7", 0);
        value("5 or 7", 1);
        value("0 or 7", 1);
        value("5 or 0", 1);
        value("0 or 0", 0);
        value("not 5", 0);
        value("not 0", 1);
        value("not not 5", 1);
        value("not 1<0", 1);
        value("not 1 < 0 and 0", 0);
        value("1 or 1 and 0", 1);
        value("(1 or 1) and 0", 0);
        value("0 and 0 or 1", 1);
        value("1 or 0 or 0", 1);
        value("1 and 1 and 1", 1);
        value("-1 or 0", 1);
        value("65*1000*1000*1000", clamped(65 * 1000 * 1000 * 1000));
        value("9999*9999*9999", clamped(9999 * 9999 * 9999));
        value("9999*9999*43-9999*9999*43+5", 5);
        value("4096*4096*128=0-4096*4096*128", 1);
        value("0007", 7);
        value("2*3*4-1", 23);
        value("like<many*4 and share=50", 1);
    }

    private static int clamped(int v) {
        return Math.max(-99, Math.min(99, v));
    }

    private static void textClamps() {
        value("99", 99);
        value("100", 99);
        value("-99", -99);
        value("-100", -99);
        value("9999", 99);
        // Without the fourth each has 33 of the rent, not 25, and wants 1: 7 are to spare.
        String[] costs = {"oath 7", "oath 8", "oath 0-5", "oath -1", "oath 9999", "oath like+2", "oath like+3"};
        int[] would = {1, 0, 1, 1, 0, 1, 0};
        for (int i = 0; i < costs.length; i++) {
            ThreeOfThem x = plain(4);
            x.swear(0, 3, 1);
            rule(x, "company 0; " + costs[i] + " ; joins 1;");
            due(costs[i], x.would(7, 3), would[i]);
        }
        ThreeOfThem x = plain(4);
        x.swear(0, 3, 1);
        x.set(0, 0, 1200);
        rule(x, "company 0; oath 9999; joins 1;");
        due("an oath costs 99 at most: 100 more", x.would(7, 3), 1);
        x.set(0, 0, 1188);
        due("99 more", x.would(7, 3), 0);
        ThreeOfThem y = plain(4);
        rule(y, "company 0; oath 0; joins -1;");
        due("joins -1", y.would(7, 3), 1);
        rule(y, "company 0; oath 0; joins 0;");
        due("joins 0", y.would(7, 3), 0);
        rule(y, "company 0; oath 0; joins one<other;");
        due("joins one<other", y.would(7, 3), 1);
        due("joins one<other", y.would(14, 0), 0);
        rule(y, "company 0; oath 0; joins many=4 and share=25 and days=2;");
        due("the set as it is", y.would(7, 3), 0);
        y.set(2, 0, 2);
        due("the set as it is", y.would(7, 3), 1);
    }

    private static void textRoom() {
        ThreeOfThem x = new ThreeOfThem();
        for (int i = 1; i < 6; i++) {
            due("text", read(x, "company 1;oath 1;joins 1;"), i);
        }
        due("no more", read(x, "company 1;oath 1;joins 1;"), FULL);
        due("tape stays", x.count(7), 25);
        due("no more", x.text(), FULL);
        due("tape goes on", x.feed(32), 26);
        due("texts", x.count(6), 6);
    }

    private static void force() {
        ThreeOfThem x = new ThreeOfThem();
        due("force(1)", x.force(1), BAD);
        due("force(-1)", x.force(-1), BAD);
        due("force(0)", x.force(0), 0);
        read(x, "company 1;oath 1;joins 1;");
        due("not by itself", x.count(8), 0);
        due("force(1)", x.force(1), 0);
        due("rule", x.count(8), 1);
        due("force(2)", x.force(2), BAD);
        due("force(0)", x.force(0), 1);
    }

    private static void would() {
        ThreeOfThem x = plain(5);
        x.set(4, 4, 0);
        due("would", x.would(7, 3), 1);
        due("two", x.would(3, 3), BAD);
        due("four", x.would(15, 3), BAD);
        due("one out in it", x.would(19, 3), BAD);
        due("of none such", x.would(7 | 64, 3), BAD);
        due("of it", x.would(7, 2), BAD);
        due("other out", x.would(7, 4), BAD);
        due("other none", x.would(7, 5), BAD);
        due("other none", x.would(7, -1), BAD);
        due("other none", x.would(7, 35), BAD);
        due("band", x.would(MIN, 3), BAD);
        due("band", x.would(0, 3), BAD);
        // 33 less 25, and 5 of company lost: 3 more.
        x.like(0, 3, 7);
        due("1 more, which it wants", x.would(7, 3), 1);
        x.like(0, 3, 8);
        due("0 more", x.would(7, 3), 0);
        due("others would", x.would(14, 0), 1);
        x.set(0, 0, 9999);
        due("for much more", x.would(7, 3), 1);
        x.like(0, 3, 9);
        due("never, of 9", x.would(7, 3), 0);
        // A baker of four brings 8, of three 6. By a rent of 84 all have 21, of three 28.
        ThreeOfThem y = plain(3);
        y.inmate(3, 0);
        y.set(0, 0, 84);
        due("the others lose 8 and 5 by the baker, for 7", y.would(7, 3), 0);
        due("by a plain one 2 and 5, for 7: 0, but they want 1", y.would(14, 0), 0);
        y.set(0, 0, 96);
        due("by 96 it is 8: 1", y.would(14, 0), 1);
        y.like(3, 0, 8);
        due("the baker has 0 more, and wants 0", y.would(14, 0), 1);
        y.swear(3, 0, 1);
        due("sworn it has 20 less and wants 5", y.would(14, 0), 0);
        y.set(0, 0, 384);
        due("32 more, less 8: 24", y.would(14, 0), 0);
        y.set(0, 0, 396);
        due("33 more, less 8: 25", y.would(14, 0), 1);
    }

    private static void now() {
        ThreeOfThem x = plain(4);
        due("band", x.now(0), 7);
        due("other", x.now(1), 3);
        due("many", x.now(2), 4);
        x.swear(0, 3, 1);
        due("band", x.now(0), 11);
        due("other", x.now(1), 2);
        due("many", x.now(2), 2);
        x.set(1, 0, 4);
        due("band", x.now(0), NONE);
        due("other", x.now(1), NONE);
        due("many", x.now(2), 0);
        due("what", x.now(3), BAD);
        due("what", x.now(-1), BAD);
        ThreeOfThem y = plain(5);
        y.set(0, 0, 1000);
        due("of five", y.now(2), 20);
        due("the least other of the first band", y.now(1), 3);
        due("changes nothing", y.count(5), 0);
    }

    private static void turnOut() {
        ThreeOfThem x = plain(4);
        due("bad", x.turnOut(7, 2), BAD);
        due("bad", x.turnOut(3, 2), BAD);
        due("bad", x.turnOut(7, 4), BAD);
        x.like(1, 0, 9);
        due("it wouldn't", x.turnOut(14, 0), STATE);
        due("nothing happened", x.count(1), 4);
        due("no day", x.count(5), 0);
        due("it does", x.turnOut(7, 3), 3);
        due("out", x.told(3, 2), 0);
        due("in", x.told(2, 2), 1);
        due("a day", x.count(5), 1);
        due("still an inmate", x.count(0), 4);
        x.set(4, 3, 1);
        x.set(2, 0, 999);
        due("it does", x.turnOut(7, 3), 3);
        due("999 at most", x.count(5), 999);
    }

    private static void goOn() {
        ThreeOfThem x = plain(7);
        x.set(0, 0, 9000);
        x.set(1, 0, 2);
        due("in", x.goOn(0), 3);
        due("how many", x.goOn(1), 5);
        int[] went = {2, 3, 4, 5, 6};
        for (int i = 0; i < 5; i++) {
            due("went " + i, x.goOn(2 + i), went[i]);
        }
        due("what", x.goOn(7), BAD);
        due("what", x.goOn(-1), BAD);
        due("in thought", x.count(1), 7);
        due("no day", x.count(5), 0);
        // Whoever goes is told by the day: on day 0 the highest, then none.
        rule(x, "company 0; oath 0; joins days<2;");
        due("days go on", x.goOn(1), 2);
        x.set(2, 0, 1);
        due("days go on", x.goOn(1), 1);
        due("none went", x.goOn(3), NONE);
        rule(x, "company 0; oath 0; joins days<1000;");
        x.set(2, 0, 998);
        due("999 at most", x.goOn(1), 5);
        rule(x, "company 0; oath 0; joins days=999;");
        x.set(2, 0, 999);
        due("999 at most", x.goOn(1), 5);
    }

    private static void end() {
        // Of five, by a rent of 1000, three may part it: but of four they'd go on to three.
        ThreeOfThem x = plain(5);
        x.set(0, 0, 1000);
        due("four", x.end(15, 0), 7);
        due("four, first", x.end(15, 1), 3);
        due("three", x.end(7, 0), 7);
        due("three, first", x.end(7, 1), NONE);
        due("five", x.end(31, 0), 7);
        due("five, first", x.end(31, 1), 3);
        due("others", x.end(30, 0), 14);
        due("others, first", x.end(30, 1), 4);
        due("none", x.end(0, 0), 0);
        due("none, first", x.end(0, 1), NONE);
        x.set(4, 0, 0);
        due("one out, too", x.end(15, 0), 7);
        due("set", x.end(32, 0), BAD);
        due("set", x.end(-1, 0), BAD);
        due("set", x.end(MIN, 0), BAD);
        due("what", x.end(0, 2), BAD);
        due("what", x.end(0, -1), BAD);
        // With an oath that costs more than all of it, 0 and 3 hold each other.
        ThreeOfThem y = plain(4);
        y.swear(0, 3, 1);
        due("sworn", y.end(15, 0), 11);
        due("sworn, first", y.end(15, 1), 2);
        due("day as now", y.count(5), 0);
        rule(y, "company 0; oath 0; joins days=0;");
        due("day as now", y.end(15, 0), 7);
    }

    private static void safeAndSworn() {
        ThreeOfThem x = plain(4);
        due("none", x.safe(), 0);
        due("sworn", x.sworn(3), 0);
        due("sworn", x.sworn(0), 1);
        x.swear(0, 3, 1);
        due("two", x.safe(), 9);
        due("is safe", x.sworn(0), BAD);
        due("isn't", x.sworn(1), 0);
        due("none such", x.sworn(4), BAD);
        due("none such", x.sworn(-1), BAD);
        x.set(4, 3, 0);
        due("three", x.safe(), 7);
        due("is out", x.sworn(3), BAD);
        ThreeOfThem y = plain(5);
        y.set(0, 0, 1000);
        due("no oath saves by 50 more", y.sworn(0), NONE);
        due("in thought", y.count(2), 0);
        ThreeOfThem z = plain(4);
        z.set(1, 0, 2);
        due("one oath leaves two against it", z.sworn(3), NONE);
        z.swear(3, 0, 1);
        due("a second one", z.sworn(3), 1);
    }

    private static void oaths() {
        ThreeOfThem x = plain(4);
        due("two", x.oaths(0), 2);
        due("first", x.oaths(1), 1);
        due("second", x.oaths(2), 23);
        x.swear(1, 3, 1);
        due("one", x.oaths(0), 1);
        due("first", x.oaths(1), 2);
        due("second", x.oaths(2), NONE);
        x.swear(0, 2, 1);
        due("none needed", x.oaths(0), 0);
        due("first", x.oaths(1), NONE);
        due("second", x.oaths(2), NONE);
        due("what", x.oaths(3), BAD);
        due("what", x.oaths(-1), BAD);
        due("in thought", x.count(2), 2);
        ThreeOfThem z = plain(4);
        z.set(1, 0, 2);
        rule(z, "company 0; oath 99; joins other=0;");
        due("two of the same one", z.oaths(0), 2);
        due("first", z.oaths(1), 1);
        due("second", z.oaths(2), 2);
        z.swear(0, 1, 1);
        due("one more", z.oaths(1), 2);
        z.swear(0, 1, 0);
        z.set(4, 1, 0);
        due("of those in", z.oaths(1), 2);
        due("one is enough", z.oaths(0), 1);
        ThreeOfThem y = plain(6);
        y.set(0, 0, 400);
        due("not by two", y.oaths(0), NONE);
        due("not by two", y.oaths(1), NONE);
        due("not by two", y.oaths(2), NONE);
    }

    private static void shield() {
        ThreeOfThem x = plain(5);
        x.set(4, 4, 0);
        due("not safe", x.safe(), 0);
        // Of five each has 20, of four 25: 5 more, and 5 of company less.
        due("one more is a shield", x.shield(3, 4), 1);
        due("for each", x.shield(0, 4), 1);
        x.set(0, 0, 1000);
        due("but not now", x.shield(3, 4), 0);
        due("in thought", x.count(1), 4);
        due("other in", x.shield(3, 0), BAD);
        due("one out", x.shield(4, 4), BAD);
        due("other none", x.shield(0, 5), BAD);
        due("other none", x.shield(0, -1), BAD);
        due("one none", x.shield(5, 4), BAD);
        due("one none", x.shield(-1, 4), BAD);
    }

    private static void holds() {
        ThreeOfThem x = plain(5);
        due("rent 100", x.holds(0), 2);
        due("least rent", x.holds(1), 120);
        x.set(0, 0, 1000);
        due("rent 1000", x.holds(0), 5);
        x.set(4, 4, 0);
        due("of four", x.holds(0), 4);
        due("least rent of four", x.holds(1), 70);
        x.inmate(0, 0);
        x.inmate(0, 0);
        x.set(4, 4, 1);
        due("of seven, at 9999", x.set(0, 0, 9999), 1000);
        due("none holds", x.holds(0), NONE);
        x.set(1, 0, 5);
        due("least rent hangs on how many are needed", x.holds(1), 230);
        due("what", x.holds(2), BAD);
        due("what", x.holds(-1), BAD);
        due("in thought", x.count(3), 9999);
        due("in thought", x.count(4), 5);
        ThreeOfThem y = plain(4);
        rule(y, "company 0; oath 0; joins share=247;");
        due("the last rent", y.holds(1), 990);
        rule(y, "company 0; oath 0; joins share=250;");
        due("not one more", y.holds(1), NONE);
        // By a rent of 10 each of four has 2, and 2 by each of three: 8; of three, 3 and 6: 9.
        rule(y, "company share; oath share; joins share;");
        due("company that hangs on the rent", y.holds(1), 10);
    }

    private static void who() {
        ThreeOfThem x = plain(5);
        x.set(0, 0, 1000);
        row(x, 0, 0, 4, 0);
        due("how many", x.who(0, 0), 1);
        due("first", x.who(0, 1), 14);
        due("all would", x.who(0, 2), NONE);
        row(x, 1, 1, 4);
        due("of five", x.who(1, 0), 4);
        due("first", x.who(1, 1), 7);
        row(x, 2, 2, 4, 0, 1);
        due("none of three", x.who(2, 0), 0);
        due("none", x.who(2, 1), NONE);
        due("the place", x.who(2, 2), 2);
        row(x, 3, 2, 4, 0, 1, 2, 3);
        due("the first place", x.who(3, 2), 2);
        due("sheet", x.who(4, 0), BAD);
        due("sheet", x.who(-1, 0), BAD);
        due("what", x.who(0, 3), BAD);
        due("what", x.who(0, -1), BAD);
        x.sheet(0, -1, 0);
        due("missing", x.who(0, 0), MISSING);
        due("missing, but what", x.who(0, 3), BAD);
        x.sheet(0, 0, 0);
        due("it tells none", x.who(0, 0), BAD);
        row(x, 0, 0, 4, 4);
        due("twice", x.who(0, 0), BAD);
        row(x, 0, 0, 5);
        due("none such", x.who(0, 0), BAD);
        row(x, 0, 0, -1);
        due("none such", x.who(0, 0), BAD);
        row(x, 0, 0, 256 + 4);
        due("lowest bits", x.who(0, 0), 4);
        x.set(4, 4, 0);
        due("out", x.who(0, 0), BAD);
        due("in thought", x.count(1), 4);
        ThreeOfThem y = plain(5);
        rule(y, "company 0; oath 0; joins days=1;");
        row(y, 0, 0, 4, 3);
        due("a day later", y.who(0, 0), 1);
        due("a day later", y.who(0, 2), 0);
        y.set(2, 0, 1);
        due("a day too late", y.who(0, 0), 0);
        due("a day too late", y.who(0, 2), 1);
        due("day stays", y.count(5), 1);
        rule(y, "company 0; oath 0; joins days=999;");
        y.set(2, 0, 999);
        due("999 at most", y.who(0, 2), NONE);
    }

    private static void drawn() {
        ThreeOfThem x = plain(5);
        x.set(0, 0, 1000);
        due("no day", x.drawn(1, 0), 31);
        // 1103527590 >>> 9 is 2155327, of five sets of four number 2: 0, 1, 3, 4; 4 goes.
        due("a day", x.drawn(1, 1), 15);
        // 12345 >>> 9 is 24, number 4: 1, 2, 3, 4.
        due("a day", x.drawn(0, 1), 15);
        due("two days", x.drawn(1, 2), 7);
        due("thirty", x.drawn(1, 30), 7);
        due("n", x.drawn(1, 31), BAD);
        due("n", x.drawn(1, -1), BAD);
        due("in thought", x.count(1), 5);
        due("no day", x.count(5), 0);
        x.like(0, 4, 9);
        // 0 never joins against 4, so the next of that meeting goes: 3, by 0, 1, 4.
        due("another one", x.drawn(1, 1), 23);
        due("not of a meeting without 0", x.drawn(0, 1), 15);
        x.set(1, 0, 5);
        due("too few to meet", x.drawn(1, 30), 31);
        x.set(1, 0, 3);
        rule(x, "company 0; oath 0; joins days=1;");
        due("not on day 0", x.drawn(1, 1), 31);
        due("on day 1", Integer.bitCount(x.drawn(1, 30)), 4);
        x.set(2, 0, 999);
        rule(x, "company 0; oath 0; joins days=999;");
        due("999 at most", Integer.bitCount(x.drawn(1, 2)), 3);
        x.set(2, 0, 0);
        rule(x, "company days; oath days; joins days;");
        due("not on day 0", x.drawn(1, 1), 31);
        due("on day 1", Integer.bitCount(x.drawn(1, 2)), 4);
    }

    private static void chance() {
        ThreeOfThem x = plain(5);
        x.set(0, 0, 1000);
        int stays = 0;
        for (int i = 0; i < 10; i++) {
            stays += x.drawn(MAX - 4 + i, 1) >>> 3 & 1;
        }
        // 3 goes by the first of the five sets alone.
        due("some", stays > 0 && stays < 10 ? 1 : 0, 1);
        long above = x.chance(MAX - 4, 10, 1, 3, 0);
        long below = x.chance(MAX - 4, 10, 1, 3, 1);
        due("as drawn", above * 10, below * stays);
        due("lowest terms", java.math.BigInteger.valueOf(above)
            .gcd(java.math.BigInteger.valueOf(below)).longValue(), 1);
        due("sure, above", x.chance(1, 10, 0, 4, 0), 1);
        due("sure, below", x.chance(1, 10, 0, 4, 1), 1);
        x.set(4, 4, 0);
        due("never, above", x.chance(1, 6, 0, 4, 0), 0);
        due("never, below", x.chance(1, 6, 0, 4, 1), 1);
        due("seeds", x.chance(1, 0, 0, 0, 0), NO);
        due("seeds", x.chance(1, -1, 0, 0, 0), NO);
        due("seeds", x.chance(1, 11, 0, 0, 0), NO);
        due("n", x.chance(1, 1, -1, 0, 0), NO);
        due("n", x.chance(1, 1, 31, 0, 0), NO);
        due("n", x.chance(1, 1, 30, 0, 0), 1);
        due("one", x.chance(1, 1, 0, -1, 0), NO);
        due("one", x.chance(1, 1, 0, 5, 0), NO);
        due("part", x.chance(1, 1, 0, 0, -1), NO);
        due("part", x.chance(1, 1, 0, 0, 2), NO);
    }

    private static void imageAndBack() {
        ThreeOfThem x = plain(3);
        x.like(0, 1, 2);
        x.swear(0, 2, 1);
        x.set(4, 1, 0);
        due("none yet", x.back(), STATE);
        due("image", x.image(), 3);
        x.like(0, 1, 8);
        x.swear(0, 2, 0);
        x.swear(0, 1, 1);
        x.set(0, 0, 7);
        x.set(1, 0, 2);
        x.set(2, 0, 3);
        x.set(3, 2, 4);
        x.set(4, 1, 1);
        x.set(4, 0, 0);
        rule(x, "company 1;oath 1;joins 1;");
        x.feed(65);
        row(x, 0, 0, 3);
        x.inmate(1, 1);
        x.like(3, 0, 1);
        x.like(0, 3, 1);
        x.swear(0, 3, 1);
        for (int i = 0; i < 2; i++) {
            due("back", x.back(), 3);
            due("inmates", x.count(0), 3);
            due("in", x.count(1), 2);
            due("1 is out", x.told(1, 2), 0);
            due("oaths", x.count(2), 1);
            due("rent", x.count(3), 100);
            due("needed", x.count(4), 3);
            due("day", x.count(5), 0);
            due("number", x.told(2, 1), 0);
            due("rule", x.count(8), 0);
            due("texts stay", x.count(6), 2);
            due("tape stays", x.count(7), 1);
            due("sheets stay", x.cell(0, 0, 3), 1);
            due("like", x.like(0, 1, 9), 2);
            due("one who came since", x.told(3, 0), UNTOLD);
            due("another comes", x.inmate(2, 5), 3);
            due("who likes 0", x.like(3, 0, 0), 5);
            due("whom 0 likes", x.like(0, 3, 0), 5);
            due("unsworn", x.told(3, 7), 0);
            due("of another kind", x.told(3, 0), 2);
            x.swear(3, 2, 1);
        }
        due("a second image", x.image(), 4);
        x.inmate(0, 0);
        due("back to it", x.back(), 4);
        due("its like", x.like(3, 0, 0), 0);
        due("empty image", new ThreeOfThem().image(), 0);
    }

    private static void count() {
        ThreeOfThem x = plain(3);
        x.set(4, 1, 0);
        x.swear(0, 1, 1);
        x.swear(2, 1, 1);
        x.set(0, 0, 1);
        x.set(1, 0, 4);
        x.set(2, 0, 5);
        read(x, "company 1;oath 1;joins 1;");
        x.force(1);
        x.feed(1);
        x.feed(2);
        int[] all = {3, 2, 2, 1, 4, 5, 2, 2, 1};
        for (int i = 0; i < all.length; i++) {
            due("count(" + i + ")", x.count(i), all[i]);
        }
        due("what", x.count(9), BAD);
        due("what", x.count(-1), BAD);
    }

    private static void sheet() {
        ThreeOfThem x = new ThreeOfThem();
        due("sheet", x.sheet(-1, 0, 0), BAD);
        due("sheet", x.sheet(4, 0, 0), BAD);
        due("sort", x.sheet(0, -2, 0), BAD);
        due("sort", x.sheet(0, 3, 0), BAD);
        due("n", x.sheet(0, 0, 41), BAD);
        due("n", x.sheet(0, 0, MAX), BAD);
        due("n", x.sheet(0, 0, -1), NEGATIVE);
        due("n", x.sheet(0, 2, MIN), NEGATIVE);
        due("sort ahead of n", x.sheet(0, 3, -1), BAD);
        due("still missing", x.cell(0, 0, 0), MISSING);
        for (int sort = 0; sort < 3; sort++) {
            due("forty", x.sheet(3, sort, 40), 1);
            due("the last", x.cell(3, 39, 1), 1);
            due("none behind", x.cell(3, 40, 1), OUTSIDE);
        }
        due("refused", x.sheet(3, 0, 41), BAD);
        due("stays", x.cell(3, 39, 1), 1);
        due("missing, whatever n", x.sheet(3, -1, -1), 1);
        due("missing, whatever n", x.sheet(3, -1, 41), 1);
        due("is missing", x.cell(3, 0, 1), MISSING);
        due("none", x.sheet(3, 0, 0), 1);
        due("none", x.cell(3, 0, 1), OUTSIDE);
        ThreeOfThem y = plain(2);
        row(y, 0, 0, 1, 0, 9);
        y.sheet(0, 0, 3);
        due("all 0", y.likes(0, 0, 0, 1), 0);
        y.cell(0, 1, 1);
        due("0, 1, 0", y.likes(0, 0, 0, 1), 1);
        due("became 0", y.like(0, 1, 5), 0);
        row(y, 0, 0, 1, 1);
        y.sheet(0, 0, 1);
        due("all 0", y.who(0, 2), 0);
        due("all 0", y.who(0, 0), 0);
    }

    private static void cell() {
        ThreeOfThem x = plain(2);
        due("sheet", x.cell(-1, 0, 0), BAD);
        due("sheet", x.cell(4, 0, 0), BAD);
        due("missing", x.cell(0, 0, 0), MISSING);
        due("missing, outside", x.cell(0, -1, 0), MISSING);
        x.sheet(0, 0, 3);
        due("outside", x.cell(0, -1, 0), OUTSIDE);
        due("outside", x.cell(0, 3, 0), OUTSIDE);
        due("outside", x.cell(0, MAX, 0), OUTSIDE);
        due("outside", x.cell(0, MIN, 0), OUTSIDE);
        int[] wide = {256, 65536, 0};
        for (int sort = 0; sort < 3; sort++) {
            row(x, 0, sort, wide[sort], wide[sort] + 1, 6 + sort);
            due("lowest bits of sort " + sort, x.likes(0, sort, 0, 1), 1);
            due("like", x.like(0, 1, 5), 6 + sort);
        }
        row(x, 0, 1, 256, 1, 6);
        due("a short has more than 8 bits", x.likes(0, 1, 0, 1), 0);
        row(x, 0, 2, 65536, 1, 6);
        due("an int has more than 16 bits", x.likes(0, 2, 0, 1), 0);
        row(x, 0, 0, 0, 1, 255);
        due("a byte of 255", x.likes(0, 0, 0, 1), 0);
    }

    private static void copy() {
        ThreeOfThem x = plain(3);
        due("sheet", x.copy(-1, 0, 0, 0, 0), BAD);
        due("sheet", x.copy(0, 0, 4, 0, 0), BAD);
        due("sheet", x.copy(4, 0, 0, 0, 0), BAD);
        due("sheet", x.copy(0, 0, -1, 0, 0), BAD);
        due("missing", x.copy(0, 0, 1, 0, 0), MISSING);
        row(x, 0, 0, 0, 1, 7, 1, 0, 8);
        due("missing", x.copy(0, 0, 1, 0, 0), MISSING);
        due("missing", x.copy(1, 0, 0, 0, 0), MISSING);
        x.sheet(1, 1, 6);
        due("unlike", x.copy(0, 0, 1, 0, 1), UNLIKE);
        due("unlike ahead of outside", x.copy(0, -1, 1, 0, 1), UNLIKE);
        x.sheet(1, 0, 6);
        due("outside", x.copy(0, -1, 1, 0, 1), OUTSIDE);
        due("outside", x.copy(0, 0, 1, -1, 1), OUTSIDE);
        due("outside", x.copy(0, 0, 1, 0, -1), OUTSIDE);
        due("outside", x.copy(0, 0, 1, 0, 7), OUTSIDE);
        due("outside", x.copy(0, 1, 1, 0, 6), OUTSIDE);
        due("outside", x.copy(0, 0, 1, 1, 6), OUTSIDE);
        due("outside", x.copy(0, 7, 1, 0, 0), OUTSIDE);
        due("outside", x.copy(0, MAX, 1, MAX, MAX), OUTSIDE);
        due("outside", x.copy(0, MIN, 1, MIN, MIN), OUTSIDE);
        due("nothing at the end", x.copy(0, 6, 1, 6, 0), 0);
        due("all", x.copy(0, 0, 1, 0, 6), 6);
        due("both became so", x.likes(1, 0, 0, 2), 2);
        due("like", x.like(0, 1, 5), 7);
        due("like", x.like(1, 0, 5), 8);
        due("upon itself, forward", x.copy(0, 0, 0, 1, 5), 5);
        // It is 0 0 1 7 1 0 now.
        due("as they were", x.likes(0, 0, 3, 1), 0);
        due("as they were", x.likes(0, 0, 1, 1), 1);
        due("like", x.like(0, 1, 5), 7);
        row(x, 0, 2, 9, 0, 1, 3, 1, 0);
        due("upon itself, back", x.copy(0, 1, 0, 0, 5), 5);
        due("as they were", x.likes(0, 2, 0, 1), 1);
        due("like", x.like(0, 1, 5), 3);
    }

    private static void likes() {
        ThreeOfThem x = plain(3);
        row(x, 0, 1, 0, 1, 9, 1, 1, 5, 1, 2, 4, 2, 3, 1, 2, 0, 10, 2, 0);
        due("sheet", x.likes(4, 1, 0, 0), BAD);
        due("sheet", x.likes(-1, 1, 0, 0), BAD);
        due("sort", x.likes(0, 3, 0, 0), BAD);
        due("sort", x.likes(0, -1, 0, 0), BAD);
        due("n", x.likes(0, 1, 0, -1), BAD);
        due("n", x.likes(0, 1, 0, 14), BAD);
        due("n ahead of sort", x.likes(0, 0, 0, 14), BAD);
        due("unlike", x.likes(0, 0, 0, 1), UNLIKE);
        due("unlike", x.likes(0, 2, 99, 1), UNLIKE);
        due("missing", x.likes(1, 0, 0, 1), MISSING);
        due("missing", x.likes(1, 2, -1, 0), MISSING);
        due("none", x.likes(0, 1, 0, 0), 0);
        due("none, from outside", x.likes(0, 1, 99, 0), 0);
        due("outside", x.likes(0, 1, -1, 1), OUTSIDE);
        due("outside", x.likes(0, 1, MIN, 13), OUTSIDE);
        due("outside", x.likes(0, 1, MAX, 13), OUTSIDE);
        due("nothing became so", x.like(0, 1, 5), 5);
        due("others are left out", x.likes(0, 1, 0, 5), 2);
        due("like", x.like(0, 1, 5), 9);
        due("like", x.like(1, 2, 5), 4);
        due("left out", x.like(2, 0, 5), 5);
        due("outside at the sixth", x.likes(0, 1, 0, 6), OUTSIDE);
        due("what stood ahead became so", x.like(0, 1, 5), 9);
        due("what stood ahead became so", x.like(1, 2, 5), 4);
        row(x, 2, 0, new int[39]);
        x.cell(2, 37, 2);
        x.cell(2, 38, 8);
        due("thirteen", x.likes(2, 0, 0, 13), 1);
        due("the last", x.like(0, 2, 5), 8);
    }

    private static void taken() {
        ThreeOfThem x = new ThreeOfThem();
        int[] under = {1, 3, 5, 11, 21, 35};
        for (int kind = 0; kind < 6; kind++) {
            x.inmate(kind, kind + 1);
            for (int k = 0; k < 6; k++) {
                int is = under[kind] >>> k & 1;
                due("taken(" + kind + "," + k + ")", x.taken(kind, k), is == 1 ? kind + 1 : UNLIKE);
            }
        }
        due("k", x.taken(0, 6), BAD);
        due("k", x.taken(0, -1), BAD);
        due("k ahead", x.taken(6, 6), BAD);
        due("none such", x.taken(6, 0), MISSING);
        due("none such", x.taken(-1, 5), MISSING);
        x.set(4, 3, 0);
        due("one out, too", x.taken(3, 1), 4);
    }
}
