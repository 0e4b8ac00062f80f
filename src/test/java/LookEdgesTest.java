/** Sentence by sentence, the edges of bands, safety, days and chances: promises 10 to 22. */
public final class LookEdgesTest extends Checks {
    public static void main(String[] args) {
        badBands();
        bandsOfEachSize();
        eachOfTheBand();
        wantsOrMore();
        toldByTheSet();
        goodWithout();
        firstOfAll();
        howManyBands();
        nowWhats();
        turnOut();
        turnOutRefused();
        lastDay();
        goOnWhats();
        goingOn();
        endSets();
        foresees();
        endsOfEnds();
        endByOaths();
        safe();
        sworn();
        swornRefused();
        fewestOaths();
        oathsOfThoseIn();
        leastPairs();
        oathWhats();
        shield();
        holds();
        leastRent();
        who();
        whoWhats();
        whoGoes();
        whoRefused();
        drawnDays();
        drawnNumbers();
        firstBandOfAMeeting();
        noMeeting();
        daysOfDrawing();
        chanceBounds();
        chances();
        inThought();
        finish();
    }

    private static void badBands() {
        says("BAD: these aren't NEEDED many, who are IN; the other one isn't IN, or is of it.");
        ThreeOfThem x = house(6, 9999, RENT_ALONE);
        x.set(4, 5, 0);
        due("three, who are", x.would(7, 3), 1);
        int[] bands = {0, 1, 3, 6, 15, 23, 31, 35, 7 | 64, 3 | 64, 3 | 128, 3 | 1 << 30, MIN, MIN | 3, -1, MAX};
        for (int band : bands) {
            due("would(" + band + ",3)", x.would(band, 3), BAD);
            due("turnOut(" + band + ",3)", x.turnOut(band, 3), BAD);
        }
        int[] others = {0, 1, 2, 5, 6, 7, -1, 31, 32, 35, 64, MIN, MAX};
        for (int other : others) {
            due("would(7," + other + ")", x.would(7, other), BAD);
            due("turnOut(7," + other + ")", x.turnOut(7, other), BAD);
        }
        due("nobody went", x.count(1), 5);
    }

    private static void bandsOfEachSize() {
        says("A BAND of a set: as many of it as are NEEDED.");
        for (int needed = 2; needed <= 5; needed++) {
            ThreeOfThem x = house(7, 9999, RENT_ALONE);
            x.set(1, 0, needed);
            for (int size = 0; size <= 6; size++) {
                int due = size == needed ? 1 : BAD;
                due(size + " of " + needed, x.would((1 << size) - 1, 6), due);
            }
        }
    }

    private static void eachOfTheBand() {
        says("Whether a BAND (bits) WOULD turn out another one (1, 0).");
        ThreeOfThem x = house(7, 9999, "company 0;oath 0;joins other=3;");
        for (int band = 0; band < 128; band++) {
            int answer = Integer.bitCount(band) == 3 && (band & 8) == 0 ? 1 : BAD;
            due("would(" + band + ",3)", x.would(band, 3), answer);
        }
        due("against another one", x.would(7, 4), 0);
        says("It WOULD turn out another one of the set, if for each of the BAND joins tells it, and");
        for (int not = 0; not < 4; not++) {
            ThreeOfThem y = house(4, 9999, "company 0;oath 0;joins one-" + not + ";");
            for (int other = 0; other < 4; other++) {
                due(not + " never joins", y.would(15 & ~(1 << other), other), other == not ? 1 : 0);
            }
        }
    }

    /** Whether all others of four turn out the last, or the first, for 50 more; one loses company. */
    private static int for50(int kind, int one, int other, int lost, boolean sworn) {
        ThreeOfThem x = new ThreeOfThem();
        for (int i = 0; i < 4; i++) {
            x.inmate(i == one ? kind : 0, i == one ? 9 : 0);
        }
        x.set(0, 0, 600);
        x.swear(one, other, sworn ? 1 : 0);
        rule(x, "company (one=" + one + ")*(other=" + other + ")*" + lost + ";oath 7;joins other=" + other + ";");
        int band = 15 & ~(1 << other);
        int would = x.would(band, other);
        due("THE END goes the same way", x.end(15, 0), would == 1 ? band : 15);
        return would;
    }

    /** Of each place in the band, whether one who has so much more, of which so much is lost, joins. */
    private static void movesFor50(int kind, int mostLost, boolean sworn) {
        for (int one = 0; one < 3; one++) {
            due("as much, KIND " + kind, for50(kind, one, 3, mostLost, sworn), 1);
            due("1 less, KIND " + kind, for50(kind, one, 3, mostLost + 1, sworn), 0);
            due("as much, KIND " + kind, for50(kind, one + 1, 0, mostLost, sworn), 1);
            due("1 less, KIND " + kind, for50(kind, one + 1, 0, mostLost + 1, sworn), 0);
        }
    }

    private static void wantsOrMore() {
        says("is by WANTS or more above its GOOD in the set");
        int[] wants = {1, 5, 10, 0, 10, 0};
        int[] wantsBreaking = {1, 5, 10, 5, 20, 0};
        for (int kind = 0; kind < 6; kind++) {
            movesFor50(kind, 50 - wants[kind], false);
        }
        says("less oath, if the two are sworn");
        for (int kind = 0; kind < 6; kind++) {
            movesFor50(kind, 43 - wantsBreaking[kind], true);
        }
    }

    private static void toldByTheSet() {
        says("(joins, oath, WANTS told by the set as it is)");
        String[] joins = {"many=4", "many=3", "share=150", "share=200"};
        for (int i = 0; i < joins.length; i++) {
            ThreeOfThem x = house(4, 600, "company 0;oath 0;joins " + joins[i] + ";");
            due("joins " + joins[i], x.would(7, 3), i % 2 == 0 ? 1 : 0);
            due("of THE END, joins " + joins[i], x.end(15, 0), i % 2 == 0 ? 7 : 15);
        }
        // Of 50 more 1 is wanted: an oath may cost 49.
        String[] oaths = {"45+many", "46+many", "share-101", "share-100"};
        for (int i = 0; i < oaths.length; i++) {
            ThreeOfThem x = house(4, 600, "company 0;oath " + oaths[i] + ";joins other=3;");
            x.swear(0, 3, 1);
            due("oath " + oaths[i], x.would(7, 3), i % 2 == 0 ? 1 : 0);
            due("of THE END, oath " + oaths[i], x.end(15, 0), i % 2 == 0 ? 7 : 15);
        }
        // A COOK of four wants 5; of three it would be 4.
        due("WANTS, for 5", for50(1, 0, 3, 45, false), 1);
        due("WANTS, for 4", for50(1, 0, 3, 46, false), 0);
    }

    private static void goodWithout() {
        says("its GOOD in the set without the other one");
        ThreeOfThem x = house(4, 0, "company 10*(many=3);oath 0;joins 1;");
        ThreeOfThem y = house(4, 0, "company 10*(many=4);oath 0;joins 1;");
        for (int other = 0; other < 4; other++) {
            due("company of three", x.would(15 & ~(1 << other), other), 1);
            due("company of four is lost", y.would(15 & ~(1 << other), other), 0);
        }
        // By 9 of two SHY ones, who bring it to three, not to four.
        ThreeOfThem z = plain(2);
        z.inmate(2, 9);
        z.inmate(0, 0);
        z.set(0, 0, 0);
        rule(z, "company 0;oath 0;joins 2<other;");
        due("what one of three BRINGS: but the SHY one has 0 more", z.would(7, 3), 0);
        z.set(3, 2, 0);
        z.set(0, 0, 12);
        due("the SHY one, 0, wants 1 and has it", z.would(7, 3), 1);
        due("a share is cut: 11 by 4 is 2, by 3 is 3", rentMoves(11), 1);
        due("8 by 4 is 2, by 3 is 2", rentMoves(8), 0);
    }

    private static int rentMoves(int rent) {
        return house(4, rent, RENT_ALONE).would(7, 3);
    }

    private static void firstOfAll() {
        says("NOW: of all BANDS of those who are IN, and others whom they WOULD turn out, the first (by BANDS as "
            + "bits, then the other one).");
        ThreeOfThem x = house(5, 9999, "company 0;oath 0;joins other=2 or other=4;");
        due("a lesser band against a higher one", x.now(0) * 10 + x.now(1), 74);
        rule(x, RENT_ALONE);
        due("then the least other one", x.now(0) * 10 + x.now(1), 73);
        rule(x, "company 0;oath 0;joins other=0;");
        due("the least against 0", x.now(0) * 10 + x.now(1), 140);
        ThreeOfThem y = house(7, 9999, "company 0;oath 0;joins other=0 and 3<one;");
        due("the last three", y.now(0) * 10 + y.now(1), 1120);
        due("one in all", y.now(2), 1);
        y.set(1, 0, 2);
        due("two of these", y.now(0) * 10 + y.now(1), 480);
        due("three in all", y.now(2), 3);
    }

    private static void howManyBands() {
        says("how many such there are (2; 0)");
        int[] all = {105, 140, 105, 42};
        for (int needed = 2; needed <= 5; needed++) {
            ThreeOfThem x = house(7, 9999, RENT_ALONE);
            x.set(1, 0, needed);
            due("of seven, " + needed, x.now(2), all[needed - 2]);
            for (int gone = 6; gone > needed; gone--) {
                x.set(4, gone, 0);
            }
            due("one more than are needed", x.now(2), needed + 1);
            x.set(4, needed, 0);
            due("no one is left to go", x.now(2), 0);
            x.set(4, 0, 0);
            due("too few", x.now(2), 0);
        }
        says("AT REST: there is none.");
        ThreeOfThem y = house(3, 9999, RENT_ALONE);
        due("three of three", y.now(2), 0);
        due("the house is at rest", y.goOn(1), 0);
        due("it needs no oath", y.oaths(0), 0);
        due("all are safe", y.safe(), 7);
    }

    private static void nowWhats() {
        says("NOW: the BAND (what 0), the other one (1), how many such there are (2; 0). BAD; NONE.");
        ThreeOfThem x = plain(4);
        int[] none = {MIN, -1, 3, MAX};
        for (int what : none) {
            due("now(" + what + ")", x.now(what), BAD);
        }
        due("the band", x.now(0), 7);
        due("the other one", x.now(1), 3);
        due("how many", x.now(2), 4);
        x.set(0, 0, 0);
        due("no band", x.now(0), NONE);
        due("no other one", x.now(1), NONE);
        due("none", x.now(2), 0);
        due("BAD, there being none", x.now(3), BAD);
        ThreeOfThem y = house(4, 9999, "company 0;oath 0;joins other=0;");
        due("the other one is 0, not none", y.now(1), 0);
    }

    private static void turnOut() {
        says("A BAND truly turns out another one: how many are IN then; DAY is 1 more.");
        ThreeOfThem x = house(7, 9999, RENT_ALONE);
        x.set(1, 0, 2);
        for (int i = 0; i < 5; i++) {
            due("how many are IN", x.turnOut(96, i), 6 - i);
            due("who went", x.told(i, 2), 0);
            due("DAY", x.count(5), i + 1);
        }
        due("who stay", x.safe(), 96);
        due("all are INMATES", x.count(0), 7);
        due("no one is left", x.turnOut(96, 4), BAD);
    }

    private static void turnOutRefused() {
        says("BAD as of would(); STATE: it WOULDN'T.");
        ThreeOfThem x = house(4, 9999, "company 0;oath 0;joins other=3;");
        due("it wouldn't", x.turnOut(14, 0), STATE);
        due("nobody went", x.count(1) * 1000 + x.count(5), 4000);
        due("BAD is named first: too few", x.turnOut(12, 0), BAD);
        due("BAD is named first: of it", x.turnOut(14, 1), BAD);
        due("BAD is named first: none such", x.turnOut(14, 4), BAD);
        due("it would", x.turnOut(7, 3), 3);
        due("OUT already", x.turnOut(7, 3), BAD);
        due("one of the band is OUT", x.turnOut(14, 0), BAD);
        due("one day", x.count(5), 1);
    }

    private static void lastDay() {
        says("DAY (0 .. 999;");
        ThreeOfThem x = house(5, 9999, RENT_ALONE);
        x.set(2, 0, 998);
        x.turnOut(7, 4);
        due("DAY 999", x.count(5), 999);
        due("one more goes", x.turnOut(7, 3), 3);
        due("DAY 999 still", x.count(5), 999);
    }

    private static void goOnWhats() {
        says("GOING ON: who is IN (what 0, bits), how many went (1), who went as number what less 2 (2 .. 6; "
            + "NONE). BAD.");
        ThreeOfThem x = house(7, 9999, "company 0;oath 0;joins other<5;");
        x.set(1, 0, 2);
        int[] none = {MIN, -1, 7, MAX};
        for (int what : none) {
            due("goOn(" + what + ")", x.goOn(what), BAD);
        }
        // 0 and 1 turn out 2, 3 and 4; then 0 and 5 turn out 1, and 5 and 6 turn out 0.
        int[] all = {96, 5, 2, 3, 4, 1, 0};
        for (int what = 0; what < 7; what++) {
            due("goOn(" + what + ")", x.goOn(what), all[what]);
        }
        // 55, the least band without 3, is less than 59, the least without 2.
        int[] two = {115, 2, 3, 2, NONE, NONE, NONE};
        ThreeOfThem y = house(7, 9999, "company 0;oath 0;joins other=2 or other=3;");
        y.set(1, 0, 5);
        for (int what = 0; what < 7; what++) {
            due("of two, goOn(" + what + ")", y.goOn(what), two[what]);
        }
        y.set(4, 0, 0);
        y.set(4, 1, 0);
        due("at rest", y.goOn(0), 124);
        due("none went", y.goOn(1), 0);
        due("no first", y.goOn(2), NONE);
        due("no fifth", y.goOn(6), NONE);
    }

    private static void goingOn() {
        says("GOING ON, in thought: as long as it isn't AT REST, the other one of NOW goes OUT, and DAY is 1 more "
            + "(999 at most).");
        ThreeOfThem x = house(7, 9999, "company 0;oath 0;joins 4<days and days<7;");
        x.set(1, 0, 2);
        int[] days = {4, 5, 6, 7};
        int[] went = {0, 2, 1, 0};
        for (int i = 0; i < 4; i++) {
            x.set(2, 0, days[i]);
            due("from day " + days[i], x.goOn(1), went[i]);
        }
        rule(x, "company 0;oath 0;joins days=999;");
        x.set(2, 0, 999);
        due("day 999 has no next", x.goOn(1), 5);
        x.set(2, 0, 998);
        due("at rest ahead of it", x.goOn(1), 0);
        rule(x, "company 0;oath 0;joins 997<days and days<1000;");
        due("days 998, 999 and no other", x.goOn(1), 5);
        due("in thought", x.count(5) * 10 + x.count(1), 9987);
    }

    private static void endSets() {
        says("THE END of a set of INMATES, IN or OUT (bits): which are left (what 0; bits), who goes first "
            + "(1; NONE). BAD.");
        ThreeOfThem x = house(5, 9999, RENT_ALONE);
        int[] sets = {MIN, -1, 32, 63, 64, 127, 128, 256, 31 | 1 << 30, MAX};
        for (int set : sets) {
            due("end(" + set + ",0)", x.end(set, 0), BAD);
            due("end(" + set + ",1)", x.end(set, 1), BAD);
        }
        int[] whats = {MIN, -1, 2, MAX};
        for (int what : whats) {
            due("end(31," + what + ")", x.end(31, what), BAD);
        }
        for (int i = 0; i < 5; i++) {
            x.set(4, i, 0);
        }
        due("all being OUT", x.end(31, 0) * 10 + x.end(31, 1), 73);
        due("a set of none", x.end(0, 0), 0);
        due("a set of none", x.end(0, 1), NONE);
        ThreeOfThem y = house(7, 9999, RENT_ALONE);
        due("of all seven", y.end(127, 0) * 10 + y.end(127, 1), 73);
        due("of the last four", y.end(120, 0) * 10 + y.end(120, 1), 566);
        ThreeOfThem z = house(4, 9999, "company 0;oath 0;joins other=0;");
        due("0 goes first, not none", z.end(15, 0) * 10 + z.end(15, 1), 140);
        says("the set itself, if there is no such BAND.");
        due("too few", x.end(28, 0) * 10 + x.end(28, 1), 280 - 1);
        due("none join", z.end(14, 0), 14);
        x.set(0, 0, 0);
        due("none has more", x.end(31, 0) * 10 + x.end(31, 1), 310 - 1);
    }

    private static void foresees() {
        says("a BAND of it FORESEES for another one of it, if each of the BAND is of THE END of the set without "
            + "the other one");
        // 0 and 1 would turn out 3 now; but then 1 and 2 would turn out 0.
        ThreeOfThem x = house(4, 9999, "company 0;oath 0;joins other=3 and one<2 or many=3 and other=0;");
        x.set(1, 0, 2);
        due("they would now", x.now(0) * 10 + x.now(1), 33);
        due("of three 0 goes", x.end(7, 0) * 10 + x.end(7, 1), 60);
        due("so they foresee it", x.end(15, 0), 15);
        due("so they foresee it", x.end(15, 1), NONE);
        due("going on they do not", x.goOn(0), 6);
        x.set(1, 0, 3);
        due("three do not join", x.end(15, 0), 15);
    }

    private static void endsOfEnds() {
        says("its GOOD in that END");
        // Company and rent: five have 12 and 2, four 9 and 3, three 12 and 4.
        ThreeOfThem x = house(5, 12, "company 3+(many=3)*3;oath 0;joins 1;");
        due("five do not at once", x.now(2), 0);
        due("four do", x.end(15, 0), 7);
        due("five look to the end", x.end(31, 0), 7);
        due("who goes first", x.end(31, 1), 3);
        says("THE END is that of the set without the other one of the first such BAND (by bits, then the "
            + "other one), who goes first;");
        // 7 for 4, whose END is the other four; 11 for 2, whose END would be 11.
        ThreeOfThem y = house(5, 9999, "company 0;oath 0;joins other=4 or other=2 and many=5;");
        due("a lesser band for a higher one", y.end(31, 1), 4);
        due("of whom no more go", y.end(31, 0), 15);
        rule(y, RENT_ALONE);
        due("then the least other one", y.end(31, 1), 3);
        says("THE END of a set (DAY as now)");
        ThreeOfThem z = house(5, 9999, "company 0;oath 0;joins days=6;");
        due("not today", z.end(31, 0), 31);
        z.set(2, 0, 6);
        due("two go on one day", z.end(31, 0), 7);
        due("in thought", z.count(5) * 10 + z.count(1), 65);
    }

    private static void endByOaths() {
        says("joins tells it, and its GOOD in that END, less oath, if the two are sworn");
        ThreeOfThem x = house(4, 600, "company 0;oath 49;joins other=3;");
        x.swear(0, 3, 1);
        due("50 less 49", x.end(15, 0), 7);
        x.set(0, 0, 588);
        due("49 less 49", x.end(15, 0), 15);
        x.swear(0, 3, 0);
        due("not sworn", x.end(15, 0), 7);
        x.swear(0, 1, 1);
        due("sworn with one of the band", x.end(15, 0), 7);
    }

    private static void safe() {
        says("SAFE: those who are IN, and whom no BAND of these WOULD turn out.");
        ThreeOfThem x = house(7, 9999, "company 0;oath 0;joins other=0 or other=6;");
        due("all but the first and the last", x.safe(), 62);
        x.set(4, 1, 0);
        due("not one who is OUT", x.safe(), 60);
        x.set(1, 0, 5);
        due("five against one", x.safe(), 60);
        x.set(4, 2, 0);
        due("four are too few", x.safe(), 121);
        for (int i = 0; i < 7; i++) {
            x.set(4, i, 0);
        }
        due("none IN", x.safe(), 0);
        x.set(4, 3, 1);
        due("one alone", x.safe(), 8);
        says("SAFE (bits).");
        for (int i = 0; i < 7; i++) {
            ThreeOfThem y = house(7, 9999, "company 0;oath 0;joins other=" + i + ";");
            due("all but " + i, y.safe(), 127 & ~(1 << i));
        }
    }

    private static void sworn() {
        says("SWORN: of those IN with whom one isn't sworn the least by which, were they sworn, that one "
            + "would be SAFE; NONE.");
        ThreeOfThem x = house(5, 1000, "company 0;oath 99;joins other=0 and 1<one;");
        due("1 doesn't join: 2 is the least", x.sworn(0), 2);
        x.swear(0, 2, 1);
        due("it is SAFE then", x.sworn(0), BAD);
        x.swear(0, 2, 0);
        x.set(4, 1, 0);
        due("1 is OUT: 2", x.sworn(0), 2);
        x.set(4, 2, 0);
        due("two are too few", x.sworn(0), BAD);
        ThreeOfThem y = house(5, 1000, "company 0;oath 99;joins other=4;");
        due("three of four are against it, whoever is sworn", y.sworn(4), NONE);
        y.swear(4, 0, 1);
        due("sworn with 0 it is not SAFE yet: 1", y.sworn(4), 1);
        y.swear(4, 0, 0);
        y.swear(4, 3, 1);
        due("sworn with 3 already: 0", y.sworn(4), 0);
        y.set(4, 0, 0);
        due("0 is OUT, three are left, one sworn", y.sworn(4), BAD);
        ThreeOfThem z = house(4, 1000, "company 0;oath 0;joins 1;");
        due("an oath that costs nothing", z.sworn(0), NONE);
        for (int i = 1; i < 4; i++) {
            z.swear(0, i, 1);
        }
        due("none is left to swear with", z.sworn(0), NONE);
    }

    private static void swornRefused() {
        says("SWORN. BAD: one isn't IN, or is SAFE; NONE.");
        ThreeOfThem x = house(5, 1000, "company 0;oath 0;joins other=0;");
        int[] none = {MIN, -1, 5, 7, 32, MAX};
        for (int one : none) {
            due("none such, " + one, x.sworn(one), BAD);
        }
        due("SAFE", x.sworn(1), BAD);
        due("not SAFE", x.sworn(0), NONE);
        x.set(4, 0, 0);
        due("OUT", x.sworn(0), BAD);
    }

    private static void fewestOaths() {
        says("OATHS: the fewest pairs (0 .. 2) of those IN who aren't sworn by which, were they, it would be "
            + "AT REST");
        // Of those who join against 0 there must be one at most.
        int[][] by = {{2, 0, NONE, NONE}, {3, 1, 1, NONE}, {4, 2, 1, 2}, {5, NONE, NONE, NONE}};
        for (int[] b : by) {
            ThreeOfThem x = house(b[0], 480, "company 0;oath 99;joins other=0;");
            x.set(1, 0, 2);
            for (int what = 0; what < 3; what++) {
                due("of " + b[0] + ", oaths(" + what + ")", x.oaths(what), b[what + 1]);
            }
            due("in thought", x.count(2), 0);
        }
        says("NONE: not by 2.");
        ThreeOfThem y = house(4, 900, "company 0;oath 0;joins 1;");
        due("oaths that cost nothing", y.oaths(0), NONE);
        due("no first", y.oaths(1), NONE);
        due("no second", y.oaths(2), NONE);
    }

    private static void oathsOfThoseIn() {
        says("of those IN who aren't sworn");
        ThreeOfThem x = house(5, 900, "company 0;oath 99;joins other=0;");
        x.set(1, 0, 2);
        x.set(4, 1, 0);
        due("1 is OUT", x.oaths(0), 2);
        due("the first", x.oaths(1), 2);
        due("the second", x.oaths(2), 3);
        x.swear(0, 1, 1);
        due("sworn with 1, who is OUT", x.oaths(0), 2);
        x.swear(2, 0, 1);
        due("sworn with 2", x.oaths(0), 1);
        due("the first", x.oaths(1), 3);
        due("no second", x.oaths(2), NONE);
        x.set(4, 1, 1);
        due("1 is IN again, and sworn", x.oaths(1), 3);
    }

    private static void leastPairs() {
        says("of like ones the first pair least, then the second");
        // Each of four must be sworn with one: 01 and 23, 02 and 13, 03 and 12.
        ThreeOfThem x = house(4, 900, "company 0;oath 99;joins 1;");
        due("the least first pair", x.oaths(1) * 100 + x.oaths(2), 123);
        x.swear(0, 1, 1);
        due("what is left", x.oaths(0) * 100 + x.oaths(1), 123);
        ThreeOfThem y = house(7, 900, "company 0;oath 99;joins other=5 and one=6 or other=5 and one<2;");
        due("against 5 are 0, 1, 6: one of them", y.oaths(0) * 100 + y.oaths(1), 105);
        y.set(4, 0, 0);
        due("two are too few", y.oaths(0), 0);
        y.set(1, 0, 2);
        due("1 or 6", y.oaths(1), 15);
        y.set(4, 1, 0);
        y.set(4, 0, 1);
        y.swear(0, 5, 1);
        due("6 alone", y.oaths(0), 0);
        ThreeOfThem z = house(7, 900, "company 0;oath 99;joins other=6 and 2<one;");
        z.set(1, 0, 2);
        due("against 6 are 3, 4, 5", z.oaths(1) * 100 + z.oaths(2), 3646);
        z.swear(3, 6, 1);
        due("the lesser stands first", z.oaths(1), 46);
        z.set(1, 0, 3);
        due("two are too few", z.oaths(0), 0);
    }

    private static void oathWhats() {
        says("OATHS: how many (what 0; NONE), the first pair (1; 10 times the lesser, and the other; NONE), "
            + "the second (2; NONE). BAD.");
        ThreeOfThem x = plain(4);
        int[] none = {MIN, -1, 3, MAX};
        for (int what : none) {
            due("oaths(" + what + ")", x.oaths(what), BAD);
        }
        x.set(0, 0, 0);
        due("at rest", x.oaths(0), 0);
        due("no first", x.oaths(1), NONE);
        due("no second", x.oaths(2), NONE);
        ThreeOfThem y = house(7, 900, "company 0;oath 99;joins other=6 and one=5 or other=6 and one=4;");
        y.set(1, 0, 2);
        due("10 times the lesser, and the other", y.oaths(1), 46);
    }

    private static void shield() {
        says("SHIELD: whether one would be SAFE, were another one, who is OUT, IN, too.");
        ThreeOfThem x = house(5, 600, "company 0;oath 0;joins many=4;");
        x.set(4, 4, 0);
        due("of five they don't join", x.shield(0, 4), 1);
        rule(x, "company 0;oath 0;joins many=5;");
        due("it is SAFE, and would not be", x.safe() * 10 + x.shield(0, 4), 150);
        rule(x, "company 0;oath 0;joins many=5 and other=4;");
        due("the shield would not be", x.shield(0, 4), 1);
        rule(x, "company 0;oath 0;joins other=0;");
        due("SAFE neither way", x.shield(0, 4), 0);
        due("SAFE either way", x.shield(1, 4), 1);
        // 1, 2 and 3 are against 0, and three of a band are not enough of four.
        ThreeOfThem y = house(5, 600, "company 0;oath 0;joins other=0;");
        y.set(4, 4, 0);
        y.set(1, 0, 4);
        due("the shield is the fourth against it", y.safe() * 10 + y.shield(0, 4), 150);
        says("SHIELD. BAD: one isn't IN, the other one isn't OUT.");
        int[] none = {MIN, -1, 4, 5, 32, MAX};
        for (int one : none) {
            due("one " + one, y.shield(one, 4), BAD);
        }
        int[] others = {MIN, -1, 0, 1, 3, 5, 7, 36, MAX};
        for (int other : others) {
            due("other " + other, y.shield(0, other), BAD);
        }
        due("in thought", y.count(1), 4);
    }

    private static void holds() {
        says("HOLDS: of NEEDED 2 .. 5 the least by which it would be AT REST; NONE.");
        int[] least = {2, 2, 2, 3, 4, 5, NONE, NONE};
        for (int n = 0; n <= 7; n++) {
            ThreeOfThem x = house(n, 9999, RENT_ALONE);
            due("of " + n, x.holds(0), least[n]);
            x.set(1, 0, 5);
            due("of " + n + ", five being needed", x.holds(0), least[n]);
            due("in thought", x.count(4), 5);
        }
        ThreeOfThem y = house(7, 9999, "company 0;oath 0;joins other=6 and 2<one;");
        due("three are against 6", y.holds(0), 4);
        says("HOLDS (what 0; NONE), LEAST RENT (1; NONE). BAD.");
        int[] none = {MIN, -1, 2, MAX};
        for (int what : none) {
            due("holds(" + what + ")", y.holds(what), BAD);
        }
    }

    private static void leastRent() {
        says("LEAST RENT: of RENTS 0, 10, .. 990 the least by which it would not; NONE.");
        due("0", house(4, 9999, "company -1;oath 0;joins 1;").holds(1), 0);
        due("0, share 0", house(4, 9999, "company -1;oath 0;joins share=0;").holds(1), 0);
        due("10", house(4, 0, RENT_ALONE).holds(1), 10);
        due("990", house(4, 0, "company 0;oath 0;joins 246<share;").holds(1), 990);
        due("not 991 to 1000", house(4, 9999, "company 0;oath 0;joins 247<share;").holds(1), NONE);
        due("not 5", house(4, 5, "company 0;oath 0;joins share=1;").holds(1), NONE);
        due("20 is 5 by four", house(4, 5, "company 0;oath 0;joins share=5;").holds(1), 20);
        due("at rest by any", house(3, 9999, RENT_ALONE).holds(1), NONE);
        // Of 10 each of four has 2 and three times 2, of three 3 and twice 3.
        due("company by the share", house(4, 9999, "company share;oath 0;joins share;").holds(1), 10);
        // Of 70 one of three has 23, one of four 17; of 60 20 and 15.
        ThreeOfThem x = plain(4);
        due("5 of company lost, 1 wanted", x.holds(1), 70);
        x.set(0, 0, 9999);
        due("whatever the rent is", x.holds(1), 70);
        due("in thought", x.count(3), 9999);
        x.set(1, 0, 4);
        due("as many being NEEDED as are", x.holds(1), NONE);
    }

    private static void who() {
        says("of BANDS that WOULD turn out the last one, when it goes, how many there are; the first, as bits "
            + "(NONE); the first place (from 0) at which one goes whom no BAND WOULD turn out then (NONE).");
        ThreeOfThem x = house(7, 9999, RENT_ALONE);
        row(x, 0, 0, 6);
        whoIs(x, 0, 20, 7, NONE);
        row(x, 0, 1, 6, 0);
        whoIs(x, 0, 10, 14, NONE);
        row(x, 0, 2, 6, 0, 3, 1);
        whoIs(x, 0, 1, 52, NONE);
        row(x, 0, 0, 6, 0, 3, 1, 5);
        whoIs(x, 0, 0, NONE, 4);
        row(x, 0, 0, 6, 5, 4, 3, 2, 1, 0);
        whoIs(x, 0, 0, NONE, 4);
        rule(x, "company 0;oath 0;joins other=1 or other=5;");
        row(x, 0, 0, 0, 1);
        whoIs(x, 0, 10, 28, 0);
        row(x, 0, 0, 1, 0, 2, 5);
        whoIs(x, 0, 1, 88, 1);
        row(x, 0, 0, 1, 5, 0, 2);
        whoIs(x, 0, 0, NONE, 2);
        row(x, 0, 0, 1, 5);
        whoIs(x, 0, 10, 13, NONE);
    }

    private static void whoWhats() {
        says("WHO: how many (what 0), the first (1; NONE), the first who wouldn't (2; NONE).");
        ThreeOfThem x = house(4, 9999, RENT_ALONE);
        row(x, 0, 0, 2);
        whoIs(x, 0, 1, 11, NONE);
        row(x, 0, 0, 2, 0);
        whoIs(x, 0, 0, NONE, 1);
        x.set(1, 0, 4);
        whoIs(x, 0, 0, NONE, 0);
    }

    private static void whoIs(ThreeOfThem x, int sheet, int many, int first, int place) {
        due("how many", x.who(sheet, 0), many);
        due("the first", x.who(sheet, 1), first);
        due("the first who wouldn't", x.who(sheet, 2), place);
    }

    private static void whoGoes() {
        says("a SHEET tells who go OUT, one behind the other, in thought, from those who are IN, DAY being 1 "
            + "more behind each");
        ThreeOfThem x = house(6, 9999, "company 0;oath 0;joins days=41;");
        row(x, 0, 0, 5, 4, 3);
        x.set(2, 0, 39);
        whoIs(x, 0, 1, 7, 0);
        x.set(2, 0, 40);
        whoIs(x, 0, 0, NONE, 0);
        x.set(2, 0, 41);
        whoIs(x, 0, 0, NONE, 1);
        due("in thought", x.count(5) * 10 + x.count(1), 416);
        rule(x, "company 0;oath 0;joins days=999;");
        x.set(2, 0, 998);
        whoIs(x, 0, 1, 7, 0);
        x.set(2, 0, 999);
        whoIs(x, 0, 1, 7, NONE);
    }

    private static void whoRefused() {
        says("BAD: SHEET, what; -11; BAD: it tells none, or one who isn't IN by then.");
        ThreeOfThem x = house(5, 9999, RENT_ALONE);
        int[] none = {MIN, -1, 4, MAX};
        for (int sheet : none) {
            due("who(" + sheet + ",0)", x.who(sheet, 0), BAD);
        }
        int[] whats = {MIN, -1, 3, MAX};
        for (int what : whats) {
            due("BAD is named ahead of -11: what " + what, x.who(3, what), BAD);
        }
        for (int what = 0; what < 3; what++) {
            due("nothing there", x.who(3, what), MISSING);
            x.sheet(2, 0, 0);
            due("it tells none", x.who(2, what), BAD);
        }
        int[][] rows = {{5}, {-1}, {7}, {31}, {32}, {36}, {4, 4}, {0, 1, 2, 3, 4, 0}, {4, 3, 2, 5}, {MIN}, {MAX}};
        for (int[] row : rows) {
            row(x, 1, 2, row);
            for (int what = 0; what < 3; what++) {
                due("one isn't IN", x.who(1, what), BAD);
            }
        }
        row(x, 1, 2, 0, 1, 2, 3, 4);
        due("all go", x.who(1, 2), 2);
        x.set(4, 4, 0);
        due("one is OUT", x.who(1, 2), BAD);
        x.sheet(1, -1, 0);
        due("nothing there any more", x.who(1, 2), MISSING);
    }

    private static void drawnDays() {
        says("DRAWN: who is IN. BAD: n.");
        ThreeOfThem x = house(7, 9999, RENT_ALONE);
        int[] none = {MIN, -1, 31, MAX};
        for (int n : none) {
            due("n " + n, x.drawn(0, n), BAD);
        }
        says("DRAWN by a SEED: n DAYS (0 .. 30), in thought, each");
        due("no day", x.drawn(0, 0), 127);
        for (int n = 1; n <= 4; n++) {
            due("one goes a day", Integer.bitCount(x.drawn(0, n)), 7 - n);
        }
        due("then none", Integer.bitCount(x.drawn(0, 5)), 3);
        due("thirty", Integer.bitCount(x.drawn(0, 30)), 3);
        x.set(2, 0, 71);
        rule(x, "company 0;oath 0;joins days=100;");
        due("the thirtieth day", Integer.bitCount(x.drawn(0, 30)), 6);
        due("not yet", x.drawn(0, 29), 127);
        due("in thought", x.count(5) * 10 + x.count(1), 717);
    }

    /** Who meets, by the document's own formula, of so many who are IN. */
    private static int meeting(int z, int in, int size) {
        int many = 0;
        for (int set = 0; set < 128; set++) {
            many += (set & ~in) == 0 && Integer.bitCount(set) == size ? 1 : 0;
        }
        int number = (z >>> 9) % many;
        for (int set = 0; set < 128; set++) {
            if ((set & ~in) == 0 && Integer.bitCount(set) == size) {
                if (number == 0) {
                    return set;
                }
                number--;
            }
        }
        return NONE;
    }

    private static void drawnBy(ThreeOfThem x, int in, int needed, int seed) {
        int z = seed;
        int left = in;
        for (int n = 1; n <= 3; n++) {
            z = z * 1103515245 + 12345;
            int met = Integer.bitCount(left) > needed ? meeting(z, left, needed + 1) : 0;
            left &= ~Integer.highestOneBit(met);
            due(n + " days by " + seed, x.drawn(seed, n), left);
        }
    }

    private static void drawnNumbers() {
        says("z = z * 1103515245 + 12345 (an int; SEED at first): of all sets of as many as are NEEDED, and one "
            + "more, of those who are IN, by bits, number (z >>> 9) modulo how many there are meets");
        int[] seeds = {0, 1, 2, 3, -1, -2, 5, 77, 512, 12345, MAX, MIN, MAX - 1, MIN + 1, 1 << 30, -12345};
        int below = 0;
        for (int needed = 2; needed <= 5; needed++) {
            // Whoever meets, the first band turns out the last of them.
            ThreeOfThem x = house(7, 9999, RENT_ALONE);
            x.set(1, 0, needed);
            for (int seed : seeds) {
                below += seed * 1103515245 + 12345 < 0 ? 1 : 0;
                drawnBy(x, 127, needed, seed);
            }
            x.set(4, 7 - needed, 0);
            for (int seed : seeds) {
                drawnBy(x, 127 & ~(1 << 7 - needed), needed, seed);
            }
        }
        due("numbers below 0 were among them", below > 0 ? 1 : 0, 1);
    }

    private static void firstBandOfAMeeting() {
        says("of BANDS of it the first (as bits) that WOULD turn out the one who is left does so");
        for (int goes = 0; goes < 4; goes++) {
            ThreeOfThem x = house(4, 9999, "company 0;oath 0;joins other<" + (goes + 1) + ";");
            due("the highest of those against whom they join", x.drawn(0, 1), 15 & ~(1 << goes));
        }
        ThreeOfThem y = house(4, 9999, "company 0;oath 0;joins other=2 and one;");
        due("one of the band doesn't join", y.drawn(0, 30), 15);
        // Of five the meeting of four looks at the whole house.
        ThreeOfThem z = house(5, 9999, "company 0;oath 0;joins many=5;");
        due("five, of whom four meet", Integer.bitCount(z.drawn(0, 1)), 4);
        due("then no more", Integer.bitCount(z.drawn(0, 30)), 4);
    }

    private static void noMeeting() {
        says("(none, if there are none)");
        for (int needed = 2; needed <= 5; needed++) {
            ThreeOfThem x = house(7, 9999, RENT_ALONE);
            x.set(1, 0, needed);
            for (int gone = 6; gone > needed; gone--) {
                x.set(4, gone, 0);
            }
            int in = (2 << needed) - 1;
            due("one more than are needed", x.drawn(3, 30), in >>> 1);
            x.set(4, 0, 0);
            due("just as many", x.drawn(3, 30), in & ~1);
            x.set(4, 1, 0);
            due("fewer", x.drawn(3, 30), in & ~3);
        }
        ThreeOfThem y = plain(1);
        due("one", y.drawn(3, 30), 1);
        y.set(4, 0, 0);
        due("none at all", y.drawn(3, 30), 0);
    }

    private static void daysOfDrawing() {
        says("then DAY is 1 more (999 at most): who is IN at last (bits).");
        ThreeOfThem x = house(7, 9999, "company 0;oath 0;joins days=999;");
        x.set(2, 0, 999);
        due("each day is 999", Integer.bitCount(x.drawn(1, 4)), 3);
        x.set(2, 0, 998);
        due("not on day 998", x.drawn(1, 1), 127);
        due("all days but the first", Integer.bitCount(x.drawn(1, 3)), 5);
        x.set(2, 0, 997);
        due("all days but two", Integer.bitCount(x.drawn(1, 3)), 6);
        rule(x, "company 0;oath 0;joins days=3;");
        x.set(2, 0, 1);
        due("just the third day", Integer.bitCount(x.drawn(1, 30)), 6);
    }

    private static void chanceBounds() {
        says("In how many of 1 .. 10 seeds");
        ThreeOfThem x = house(5, 9999, RENT_ALONE);
        int[] seeds = {MIN, -1, 0, 11, MAX};
        for (int s : seeds) {
            due("seeds " + s, x.chance(0, s, 0, 0, 0), NO);
        }
        due("of 1", x.chance(0, 1, 0, 0, 1), 1);
        due("of 10", x.chance(0, 10, 0, 0, 1), 1);
        says("NO: none such.");
        int[] days = {MIN, -1, 31, MAX};
        for (int n : days) {
            due("n " + n, x.chance(0, 1, n, 0, 0), NO);
        }
        due("n 30", x.chance(0, 1, 30, 0, 0), 1);
        int[] ones = {MIN, -1, 5, 7, 32, MAX};
        for (int one : ones) {
            due("one " + one, x.chance(0, 1, 0, one, 0), NO);
        }
        int[] parts = {MIN, -1, 2, MAX};
        for (int part : parts) {
            due("part " + part, x.chance(0, 1, 0, 0, part), NO);
        }
    }

    private static void chances() {
        says("SEED and each 1 more (an int), one is IN then, DRAWN: part 0 above, 1 below the line, in lowest "
            + "terms.");
        int reduced = 0;
        for (int seeds = 1; seeds <= 10; seeds++) {
            ThreeOfThem x = house(5, 9999, RENT_ALONE);
            for (int k = 0; k < 4; k++) {
                int seed = k == 0 ? MAX - 4 : 10 * k * k;
                int stays = 0;
                for (int i = 0; i < seeds; i++) {
                    stays += x.drawn(seed + i, 1) >>> 3 & 1;
                }
                long above = x.chance(seed, seeds, 1, 3, 0);
                long below = x.chance(seed, seeds, 1, 3, 1);
                due("as drawn", above * seeds, below * stays);
                for (int d = 2; d <= 10; d++) {
                    due("nothing divides both", above % d == 0 && below % d == 0 ? 1 : 0, 0);
                }
                reduced += below < seeds && stays > 0 && stays < seeds ? 1 : 0;
            }
        }
        due("some were not in lowest terms as counted", reduced > 0 ? 1 : 0, 1);
        ThreeOfThem y = house(5, 9999, RENT_ALONE);
        due("surely: above", y.chance(7, 10, 30, 0, 0), 1);
        due("surely: below", y.chance(7, 10, 30, 0, 1), 1);
        due("never: above", y.chance(7, 10, 30, 4, 0), 0);
        due("never: below", y.chance(7, 10, 30, 4, 1), 1);
        y.set(4, 0, 0);
        due("OUT already: above", y.chance(7, 4, 0, 0, 0), 0);
        due("OUT already: below", y.chance(7, 4, 0, 0, 1), 1);
    }

    private static void inThought() {
        says("GOING ON, in thought");
        ThreeOfThem x = house(7, 9999, RENT_ALONE);
        row(x, 0, 0, 6, 5);
        x.set(4, 6, 0);
        x.swear(0, 1, 1);
        String before = seen(x);
        for (int what = 0; what < 3; what++) {
            x.now(what);
            x.goOn(what);
            x.oaths(what);
            x.who(0, what);
            x.end(127, what);
            x.holds(what);
        }
        x.safe();
        x.sworn(0);
        x.shield(0, 6);
        x.drawn(1, 30);
        x.chance(1, 10, 30, 0, 0);
        x.would(7, 3);
        due("nothing truly happens", before.equals(seen(x)) ? 1 : 0, 1);
    }

    private static String seen(ThreeOfThem x) {
        StringBuilder b = new StringBuilder();
        for (int what = 0; what < 9; what++) {
            b.append(x.count(what)).append(' ');
        }
        for (int one = 0; one < 7; one++) {
            for (int what = 0; what < 8; what++) {
                b.append(x.told(one, what)).append(' ');
            }
        }
        return b.toString();
    }
}
