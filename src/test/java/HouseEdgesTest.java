/** Sentence by sentence, the edges of inmates, the house and its image: promises 1 to 6, 23 to 25. */
public final class HouseEdgesTest extends Checks {
    public static void main(String[] args) {
        callsOfOneObject();
        constants();
        emptyHouse();
        sevenInmates();
        kinds();
        numbers();
        inOrOut();
        likes();
        oaths();
        rent();
        needed();
        day();
        quotients();
        setWhats();
        brings();
        thoseIn();
        wants();
        wantsAtLeast();
        told();
        toldWhats();
        goodOfOneOut();
        swornWith();
        noImage();
        image();
        cameSince();
        imageLater();
        counts();
        finish();
    }

    private static void callsOfOneObject() {
        says("An object is used for at most 512 calls after it has been made");
        ThreeOfThem x = new ThreeOfThem();
        for (int i = 0; i < 7; i++) {
            x.inmate(0, 0);
        }
        for (int i = 7; i < 511; i++) {
            x.set(0, 0, i);
        }
        due("call 512", x.set(0, 0, 9999), 510);
        ThreeOfThem y = new ThreeOfThem();
        for (int i = 0; i < 511; i++) {
            y.sheet(i % 4, i % 3, 40);
        }
        due("call 512", y.cell(2, 39, 1), 1);
    }

    private static void constants() {
        says("NONE is -1; NO, where a long is answered, -4611686018427387904.");
        due("NONE", ThreeOfThem.NONE, -1);
        due("NO", ThreeOfThem.NO, -4611686018427387904L);
        says("BAD (-2: a number is none such or not as told), STATE (-3), FULL (-4)");
        due("BAD", ThreeOfThem.BAD, -2);
        due("STATE", ThreeOfThem.STATE, -3);
        due("FULL", ThreeOfThem.FULL, -4);
    }

    private static void emptyHouse() {
        says("`ThreeOfThem()`: An empty house.");
        ThreeOfThem x = new ThreeOfThem();
        int[] counts = {0, 0, 0, 100, 3, 0, 1, 0, 0};
        for (int i = 0; i < counts.length; i++) {
            due("count(" + i + ")", x.count(i), counts[i]);
        }
        due("told(0,0)", x.told(0, 0), UNTOLD);
        due("like(0,1,5)", x.like(0, 1, 5), BAD);
        due("swear(0,1,0)", x.swear(0, 1, 0), BAD);
        due("would(7,3)", x.would(7, 3), BAD);
        due("would(0,0)", x.would(0, 0), BAD);
        due("turnOut(7,3)", x.turnOut(7, 3), BAD);
        int[] now = {NONE, NONE, 0};
        int[] oaths = {0, NONE, NONE};
        for (int i = 0; i < 3; i++) {
            due("now(" + i + ")", x.now(i), now[i]);
            due("oaths(" + i + ")", x.oaths(i), oaths[i]);
        }
        int[] goOn = {0, 0, NONE, NONE, NONE, NONE, NONE};
        for (int i = 0; i < goOn.length; i++) {
            due("goOn(" + i + ")", x.goOn(i), goOn[i]);
        }
        emptyLooks(x);
    }

    private static void emptyLooks(ThreeOfThem x) {
        due("end(0,0)", x.end(0, 0), 0);
        due("end(0,1)", x.end(0, 1), NONE);
        due("end(1,0)", x.end(1, 0), BAD);
        due("safe()", x.safe(), 0);
        due("sworn(0)", x.sworn(0), BAD);
        due("shield(0,0)", x.shield(0, 0), BAD);
        due("holds(0)", x.holds(0), 2);
        due("holds(1)", x.holds(1), NONE);
        due("who(0,0)", x.who(0, 0), MISSING);
        x.sheet(0, 0, 1);
        due("who(0,0)", x.who(0, 0), BAD);
        due("drawn(1,30)", x.drawn(1, 30), 0);
        due("chance(1,10,30,0,0)", x.chance(1, 10, 30, 0, 0), NO);
        due("taken(0,0)", x.taken(0, 0), MISSING);
        due("back()", x.back(), STATE);
        due("image()", x.image(), 0);
    }

    private static void sevenInmates() {
        says("INMATES (7 at most, numbered from 0)");
        ThreeOfThem x = new ThreeOfThem();
        for (int i = 0; i < 7; i++) {
            due("number " + i, x.inmate(0, 0), i);
        }
        due("an eighth", x.inmate(0, 0), FULL);
        due("count(0)", x.count(0), 7);
        due("told(6,2)", x.told(6, 2), 1);
        due("told(7,2)", x.told(7, 2), UNTOLD);
        says("An INMATE, who is IN: the number. BAD; FULL.");
        for (int i = 0; i < 7; i++) {
            x.set(4, i, 0);
        }
        due("an eighth, all being OUT", x.inmate(0, 0), FULL);
        due("BAD is named first", x.inmate(6, 0), BAD);
        due("BAD is named first", x.inmate(0, 10), BAD);
        due("nobody came", x.count(0) * 10 + x.count(1), 70);
    }

    private static void kinds() {
        says("0 INMATE, 1 COOK under INMATE, 2 SHY under INMATE, 3 BAKER under COOK, 4 PROUD under SHY, "
            + "5 SNORER under COOK");
        ThreeOfThem x = new ThreeOfThem();
        due("KIND -1", x.inmate(-1, 0), BAD);
        due("KIND 6", x.inmate(6, 0), BAD);
        due("KIND MIN", x.inmate(MIN, 0), BAD);
        due("KIND MAX", x.inmate(MAX, 0), BAD);
        for (int kind = 0; kind < 6; kind++) {
            due("KIND " + kind, x.inmate(kind, 0), kind);
            due("KIND " + kind + " told", x.told(kind, 0), kind);
        }
    }

    private static void numbers() {
        says("a NUMBER (0 .. 9)");
        ThreeOfThem x = new ThreeOfThem();
        due("NUMBER -1", x.inmate(0, -1), BAD);
        due("NUMBER 10", x.inmate(0, 10), BAD);
        due("NUMBER MIN", x.inmate(0, MIN), BAD);
        due("NUMBER MAX", x.inmate(0, MAX), BAD);
        due("NUMBER 0", x.inmate(0, 0), 0);
        due("NUMBER 9", x.inmate(0, 9), 1);
        due("told 0", x.told(0, 1), 0);
        due("told 9", x.told(1, 1), 9);
        says("NUMBER of an INMATE (3; of: which)");
        due("to 9", x.set(3, 0, 9), 0);
        due("to 0", x.set(3, 1, 0), 9);
        due("told", x.told(0, 1) * 10 + x.told(1, 1), 90);
        due("to -1", x.set(3, 0, -1), BAD);
        due("to 10", x.set(3, 0, 10), BAD);
        due("of -1", x.set(3, -1, 0), BAD);
        due("of one who hasn't come", x.set(3, 2, 0), BAD);
        due("of MIN", x.set(3, MIN, 0), BAD);
        due("of 32, whose bit is that of 0", x.set(3, 32, 0), BAD);
        due("as it was", x.told(0, 1), 9);
        x.set(4, 0, 0);
        due("of one OUT", x.set(3, 0, 4), 9);
    }

    private static void inOrOut() {
        says("Each is IN the house, as they come, or OUT.");
        ThreeOfThem x = plain(7);
        due("all IN", x.count(1), 7);
        for (int i = 0; i < 7; i++) {
            due("IN " + i, x.told(i, 2), 1);
            due("goes OUT " + i, x.set(4, i, 0), 1);
            due("OUT " + i, x.told(i, 2), 0);
        }
        due("all OUT", x.count(1), 0);
        due("still INMATES", x.count(0), 7);
        says("whether one is IN (4; 1, 0)");
        due("OUT already", x.set(4, 3, 0), 0);
        due("IN again", x.set(4, 3, 1), 0);
        due("IN already", x.set(4, 3, 1), 1);
        due("just that one", x.goOn(0), 8);
        due("2", x.set(4, 3, 2), BAD);
        due("-1", x.set(4, 3, -1), BAD);
        due("of -1", x.set(4, -1, 1), BAD);
        due("of none such", x.set(4, 7, 1), BAD);
        due("of none such", x.set(4, 35, 0), BAD);
        due("just that one", x.goOn(0), 8);
        due("no day", x.count(5), 0);
    }

    private static void likes() {
        says("LIKES: how one likes another one (0 .. 9; 5 at first).");
        ThreeOfThem x = plain(7);
        for (int a = 0; a < 7; a++) {
            for (int b = 0; b < 7; b++) {
                if (a != b) {
                    due("at first " + a + " " + b, x.like(a, b, (a * 7 + b) % 10), 5);
                }
            }
        }
        for (int a = 0; a < 7; a++) {
            for (int b = 0; b < 7; b++) {
                if (a != b) {
                    due("each by itself " + a + " " + b, x.like(a, b, 0), (a * 7 + b) % 10);
                }
            }
        }
        due("9", x.like(0, 6, 9), 0);
        due("-1", x.like(0, 6, -1), BAD);
        due("10", x.like(0, 6, 10), BAD);
        due("MIN", x.like(0, 6, MIN), BAD);
        due("MAX", x.like(0, 6, MAX), BAD);
        due("as it was", x.like(0, 6, 9), 9);
        says("One LIKES another one so much: how much it was. BAD (alike, too).");
        for (int a = 0; a < 7; a++) {
            due("alike " + a, x.like(a, a, 5), BAD);
        }
        due("none such", x.like(7, 0, 5), BAD);
        due("none such", x.like(0, 7, 5), BAD);
        due("none such", x.like(-1, 0, 5), BAD);
        due("none such", x.like(0, -1, 5), BAD);
        due("none such", x.like(MIN, MAX, 5), BAD);
        x.set(4, 0, 0);
        x.set(4, 6, 0);
        due("of two who are OUT", x.like(0, 6, 3), 9);
    }

    private static void oaths() {
        says("OATHS: pairs of INMATES that are sworn (none at first).");
        ThreeOfThem x = plain(7);
        due("none", x.count(2), 0);
        int pairs = 0;
        for (int a = 0; a < 7; a++) {
            for (int b = a + 1; b < 7; b++) {
                due("at first " + a + " " + b, x.swear(b, a, 1), 0);
                pairs++;
                due("oaths", x.count(2), pairs);
            }
        }
        says("Two are sworn (is 1), or not (0): what it was. BAD (alike, too).");
        due("again", x.swear(0, 6, 1), 1);
        due("the other way", x.swear(6, 0, 0), 1);
        due("no more, either way", x.swear(0, 6, 0), 0);
        due("of 21", x.count(2), 20);
        due("is 2", x.swear(0, 6, 2), BAD);
        due("is -1", x.swear(0, 6, -1), BAD);
        due("is MIN", x.swear(0, 6, MIN), BAD);
        for (int a = 0; a < 7; a++) {
            due("alike " + a, x.swear(a, a, 1), BAD);
            due("alike " + a, x.swear(a, a, 0), BAD);
        }
        due("none such", x.swear(7, 0, 1), BAD);
        due("none such", x.swear(0, 7, 1), BAD);
        due("none such", x.swear(-1, 0, 1), BAD);
        due("none such", x.swear(0, -1, 1), BAD);
        due("none such", x.swear(0, 38, 1), BAD);
        due("of 21", x.count(2), 20);
    }

    private static void rent() {
        says("RENT (0 .. 9999; 100 at first)");
        ThreeOfThem x = new ThreeOfThem();
        due("at first", x.count(3), 100);
        bounds(x, 0, 3, 0, 9999, 100);
    }

    private static void needed() {
        says("NEEDED (2 .. 5; 3 at first): so many may turn out another one.");
        ThreeOfThem x = new ThreeOfThem();
        due("at first", x.count(4), 3);
        bounds(x, 1, 4, 2, 5, 3);
        for (int needed = 2; needed <= 5; needed++) {
            ThreeOfThem y = house(7, 9999, RENT_ALONE);
            y.set(1, 0, needed);
            due("so many, " + needed, Integer.bitCount(y.now(0)), needed);
        }
    }

    private static void day() {
        says("DAY (0 .. 999; 0 at first)");
        ThreeOfThem x = new ThreeOfThem();
        due("at first", x.count(5), 0);
        bounds(x, 2, 5, 0, 999, 0);
    }

    /** What is set and counted so takes its bounds and nothing beside them. */
    private static void bounds(ThreeOfThem x, int what, int counted, int least, int most, int first) {
        due("the most", x.set(what, 0, most), first);
        due("beyond", x.set(what, 0, most + 1), BAD);
        due("far beyond", x.set(what, 0, MAX), BAD);
        due("as it was", x.count(counted), most);
        due("the least", x.set(what, 0, least), most);
        due("below", x.set(what, 0, least - 1), BAD);
        due("far below", x.set(what, 0, MIN), BAD);
        due("as it was", x.count(counted), least);
    }

    private static void quotients() {
        says("Quotients are cut toward 0.");
        int[][] shares = {{100, 3, 33}, {100, 7, 14}, {1, 2, 0}, {6, 7, 0}, {7, 7, 1}, {13, 7, 1},
            {9999, 7, 1428}, {9999, 1, 9999}, {0, 5, 0}, {11, 6, 1}};
        for (int[] s : shares) {
            ThreeOfThem x = house(s[1], s[0], RENT_ALONE);
            due("share of " + s[0] + " by " + s[1], x.told(0, 6), s[2]);
        }
    }

    private static void setWhats() {
        says("RENT (what 0), NEEDED (1), DAY (2), NUMBER of an INMATE (3; of: which), whether one is IN "
            + "(4; 1, 0) becomes v: what it was. BAD.");
        ThreeOfThem x = plain(1);
        int[] none = {-1, 5, MIN, MAX};
        for (int what : none) {
            due("what " + what, x.set(what, 0, 1), BAD);
        }
        int[] anyOf = {MIN, -1, 1, 7, MAX};
        for (int of : anyOf) {
            due("RENT, whatever of", x.set(0, of, 100), 100);
            due("NEEDED, whatever of", x.set(1, of, 3), 3);
            due("DAY, whatever of", x.set(2, of, 0), 0);
        }
        due("just RENT", x.set(0, 0, 2), 100);
        due("just NEEDED", x.set(1, 0, 4), 3);
        due("just DAY", x.set(2, 0, 6), 0);
        due("just NUMBER", x.set(3, 0, 8), 0);
        due("RENT", x.count(3), 2);
        due("NEEDED", x.count(4), 4);
        due("DAY", x.count(5), 6);
        due("NUMBER", x.told(0, 1), 8);
        due("IN", x.count(1), 1);
    }

    /** One of a KIND and NUMBER and plain ones, so many of whom are IN: what is told of the one. */
    private static int toldOf(int kind, int number, int n, int what) {
        ThreeOfThem x = new ThreeOfThem();
        x.inmate(kind, number);
        for (int i = 1; i < n; i++) {
            x.inmate(0, 0);
        }
        if (n == 0) {
            x.set(4, 0, 0);
        }
        return x.told(0, what);
    }

    private static void brings() {
        says("INMATE: 0; COOK: NUMBER and n together;");
        for (int n = 0; n <= 7; n++) {
            due("an INMATE of " + n, toldOf(0, 9, n, 3), 0);
            due("a COOK of " + n, toldOf(1, 0, n, 3), n);
            due("a COOK, 9, of " + n, toldOf(1, 9, n, 3), 9 + n);
        }
        says("SHY: NUMBER, if n is below 4, else as an INMATE;");
        for (int n = 0; n <= 7; n++) {
            due("a SHY one of " + n, toldOf(2, 9, n, 3), n < 4 ? 9 : 0);
        }
        due("of three", toldOf(2, 1, 3, 3), 1);
        due("of four", toldOf(2, 1, 4, 3), 0);
        says("BAKER: twice a COOK's; PROUD: 3 less than a SHY; SNORER: a COOK's less 12.");
        for (int n = 0; n <= 7; n++) {
            due("a BAKER of " + n, toldOf(3, 9, n, 3), 2 * (9 + n));
            due("a PROUD one of " + n, toldOf(4, 2, n, 3), n < 4 ? -1 : -3);
            due("a SNORER of " + n, toldOf(5, 0, n, 3), n - 12);
        }
        due("a SNORER, 9, of seven", toldOf(5, 9, 7, 3), 4);
    }

    private static void thoseIn() {
        says("BRINGS (to each other one, n being IN)");
        ThreeOfThem x = new ThreeOfThem();
        x.inmate(1, 9);
        for (int i = 1; i < 7; i++) {
            x.inmate(0, 0);
        }
        for (int n = 6; n >= 1; n--) {
            x.set(4, n, 0);
            due("a COOK who is IN, of " + n, x.told(0, 3), 9 + n);
        }
        x.set(4, 0, 0);
        due("a COOK who is OUT, of none", x.told(0, 3), 9);
        x.set(4, 6, 1);
        due("a COOK who is OUT, of one", x.told(0, 3), 10);
        says("WANTS (how much more it must have, to join; n being IN; whether it breaks an oath)");
        due("a COOK who is OUT, of one", x.told(0, 4), 2);
        x.set(4, 0, 1);
        due("a COOK who is IN, of two", x.told(0, 4), 3);
        due("who breaks an oath", x.told(0, 5), 3);
    }

    private static void wants() {
        says("INMATE: 1; COOK: n more than an INMATE; SHY: NUMBER more than an INMATE;");
        for (int n = 0; n <= 7; n++) {
            for (int what = 4; what <= 5; what++) {
                due("an INMATE of " + n, toldOf(0, 9, n, what), 1);
                due("a COOK of " + n, toldOf(1, 9, n, what), n + 1);
                due("a SHY one of " + n, toldOf(2, 9, n, what), 10);
                due("a SHY one, 0, of " + n, toldOf(2, 0, n, what), 1);
            }
        }
        says("BAKER: as a COOK, if it breaks an oath, else 0; PROUD: twice a SHY's, if it breaks an oath, "
            + "else as a SHY;");
        for (int n = 0; n <= 7; n++) {
            due("a BAKER of " + n, toldOf(3, 9, n, 4), 0);
            due("a BAKER who breaks one, of " + n, toldOf(3, 9, n, 5), n + 1);
            due("a PROUD one of " + n, toldOf(4, 9, n, 4), 10);
            due("a PROUD one who breaks one, of " + n, toldOf(4, 9, n, 5), 20);
            due("a PROUD one, 0, who breaks one", toldOf(4, 0, n, 5), 2);
        }
    }

    private static void wantsAtLeast() {
        says("SNORER: 5 less than a COOK. (WANTS 0 at least, in the end.)");
        int[] wants = {0, 0, 0, 0, 0, 1, 2, 3};
        for (int n = 0; n <= 7; n++) {
            due("a SNORER of " + n, toldOf(5, 9, n, 4), wants[n]);
            due("a SNORER who breaks one, of " + n, toldOf(5, 9, n, 5), wants[n]);
        }
    }

    private static void told() {
        says("Of an INMATE: 0 KIND, 1 NUMBER, 2 whether IN, 3 BRINGS now, 4 WANTS now (no oath broken), 5 WANTS "
            + "(an oath broken), 6 GOOD (of one OUT: 0), 7 with whom it is sworn (bits).");
        ThreeOfThem x = plain(2);
        x.inmate(4, 8);
        x.swear(2, 0, 1);
        x.like(2, 1, 9);
        int[] in = {4, 8, 1, 5, 9, 18, 33 + 5 + 9, 1};
        int[] out = {4, 8, 0, 5, 9, 18, 0, 1};
        for (int what = 0; what < 8; what++) {
            due("IN, told(2," + what + ")", x.told(2, what), in[what]);
        }
        x.set(4, 2, 0);
        for (int what = 0; what < 8; what++) {
            due("OUT, told(2," + what + ")", x.told(2, what), out[what]);
        }
    }

    private static void toldWhats() {
        says("-100000: none such.");
        ThreeOfThem x = plain(6);
        int[] none = {MIN, -1, 6, 7, 32, MAX};
        for (int one : none) {
            for (int what = 0; what < 8; what++) {
                due("told(" + one + "," + what + ")", x.told(one, what), UNTOLD);
            }
        }
        int[] whats = {MIN, -1, 8, MAX};
        for (int what : whats) {
            due("told(5," + what + ")", x.told(5, what), UNTOLD);
        }
    }

    private static void goodOfOneOut() {
        says("6 GOOD (of one OUT: 0)");
        ThreeOfThem x = plain(2);
        due("of two", x.told(1, 6), 55);
        x.set(4, 1, 0);
        due("of one OUT", x.told(1, 6), 0);
        due("of one alone", x.told(0, 6), 100);
        x.set(4, 0, 0);
        due("of one OUT of an empty house", x.told(0, 6), 0);
        says("GOOD of one in a set: share, and of each other one of the set company and what that one "
            + "BRINGS (n: how many are of the set), together.");
        ThreeOfThem y = new ThreeOfThem();
        y.inmate(1, 9);
        y.inmate(2, 9);
        y.inmate(5, 0);
        y.like(0, 1, 0);
        y.like(0, 2, 9);
        due("of a COOK: 33, 0 and 9, 9 and 3 - 12", y.told(0, 6), 33 + 0 + 9 + 9 - 9);
        due("of a SHY one: 33, 5 and 12, 5 and 3 - 12", y.told(1, 6), 33 + 5 + 12 + 5 - 9);
        y.inmate(0, 0);
        due("of four: 25, 0 and 0, 9 and 4 - 12, 5", y.told(0, 6), 25 + 0 + 0 + 9 - 8 + 5);
        y.set(0, 0, 0);
        due("without a rent", y.told(0, 6), 0 + 0 + 0 + 9 - 8 + 5);
        y.set(0, 0, 1);
        due("by too small a rent", y.told(0, 6), 0 + 0 + 0 + 9 - 8 + 5);
    }

    private static void swornWith() {
        says("7 with whom it is sworn (bits).");
        ThreeOfThem x = plain(7);
        for (int a = 0; a < 7; a++) {
            due("none yet " + a, x.told(a, 7), (1 << a) - 1);
            for (int b = a + 1; b < 7; b++) {
                x.swear(a, b, 1);
            }
            due("with all others " + a, x.told(a, 7), 127 ^ 1 << a);
        }
        x.set(4, 0, 0);
        x.set(4, 6, 0);
        due("also of one OUT", x.told(0, 7), 126);
        due("also with those OUT", x.told(3, 7), 119);
        due("oaths of those OUT, too", x.count(2), 21);
    }

    private static void noImage() {
        says("All that it keeps is as in THE IMAGE: how many INMATES. STATE: there is none.");
        ThreeOfThem x = plain(2);
        due("none yet", x.back(), STATE);
        due("nothing changed", x.count(0), 2);
        due("image()", x.image(), 2);
        x.inmate(0, 0);
        due("back()", x.back(), 2);
        due("a second time", x.back(), 2);
    }

    private static void image() {
        says("AN IMAGE keeps who is IN, LIKES, OATHS, NUMBERS, RENT, NEEDED, DAY, THE RULE");
        ThreeOfThem x = plain(7);
        read(x, RENT_ALONE);
        x.set(4, 6, 0);
        x.like(6, 5, 1);
        x.swear(5, 6, 1);
        x.set(3, 6, 7);
        x.set(0, 0, 9999);
        x.set(1, 0, 5);
        x.set(2, 0, 999);
        x.force(1);
        due("image()", x.image(), 7);
        x.set(4, 6, 1);
        x.set(4, 0, 0);
        x.like(6, 5, 2);
        x.swear(5, 6, 0);
        x.swear(0, 1, 1);
        x.set(3, 6, 0);
        x.set(0, 0, 0);
        x.set(1, 0, 2);
        x.set(2, 0, 0);
        x.force(0);
        due("back()", x.back(), 7);
        due("who is IN", x.told(0, 2) * 10 + x.told(6, 2), 10);
        due("how many", x.count(1), 6);
        due("LIKES", likeOf(x, 6, 5), 1);
        due("OATHS", x.told(5, 7) * 1000 + x.told(0, 7), 64000);
        due("NUMBERS", x.told(6, 1), 7);
        due("RENT", x.count(3), 9999);
        due("NEEDED", x.count(4), 5);
        due("DAY", x.count(5), 999);
        due("THE RULE", x.count(8), 1);
    }

    private static void cameSince() {
        says("(INMATES that came since go)");
        ThreeOfThem x = plain(3);
        due("image()", x.image(), 3);
        for (int i = 3; i < 7; i++) {
            x.inmate(5, 9);
            x.like(i, 0, 9);
            x.like(0, i, 0);
            x.swear(0, i, 1);
        }
        x.set(4, 4, 0);
        due("full", x.inmate(0, 0), FULL);
        due("back()", x.back(), 3);
        due("they are gone", x.count(0) * 10 + x.count(1), 33);
        due("their oaths are", x.told(0, 7), 0);
        due("none such", x.told(3, 0), UNTOLD);
        due("none such", x.like(0, 3, 0), BAD);
        due("none such", x.taken(3, 5), MISSING);
        for (int i = 3; i < 7; i++) {
            due("there is room again", x.inmate(1, 2), i);
            due("KIND", x.told(i, 0), 1);
            due("NUMBER", x.told(i, 1), 2);
            due("IN, as they come", x.told(i, 2), 1);
            due("LIKES", likeOf(x, i, 0), 5);
            due("LIKES", likeOf(x, 0, i), 5);
            due("OATHS", x.told(i, 7), 0);
        }
        due("an eighth", x.inmate(0, 0), FULL);
    }

    private static void imageLater() {
        says("AN IMAGE is kept: how many INMATES.");
        ThreeOfThem x = new ThreeOfThem();
        due("of an empty house", x.image(), 0);
        for (int i = 0; i < 7; i++) {
            x.inmate(0, 0);
        }
        due("all go", x.back(), 0);
        due("none are there", x.count(0) * 10 + x.count(1), 0);
        due("the first again", x.inmate(2, 3), 0);
        due("of one", x.image(), 1);
        x.set(4, 0, 0);
        due("another image instead", x.image(), 1);
        x.set(4, 0, 1);
        due("the later one", x.back(), 1);
        due("as in the later one", x.told(0, 2), 0);
        read(x, RENT_ALONE);
        x.feed(32);
        row(x, 3, 2, 7);
        due("the same", x.back(), 1);
        due("TEXTS aren't kept", x.count(6), 2);
        due("THE TAPE isn't", x.count(7), 1);
        due("SHEETS aren't", x.cell(3, 0, 7), 1);
    }

    private static void counts() {
        says("How many: 0 INMATES, 1 IN, 2 oaths, 3 RENT, 4 NEEDED, 5 DAY, 6 TEXTS, 7 bytes of THE TAPE, "
            + "8 THE RULE. BAD.");
        ThreeOfThem x = plain(7);
        for (int a = 0; a < 7; a++) {
            for (int b = 0; b < a; b++) {
                x.swear(a, b, 1);
            }
        }
        x.set(0, 0, 9999);
        x.set(1, 0, 5);
        x.set(2, 0, 999);
        for (int i = 0; i < 5; i++) {
            read(x, RENT_ALONE);
        }
        x.force(5);
        for (int i = 0; i < 160; i++) {
            x.feed(32);
        }
        int[] most = {7, 7, 21, 9999, 5, 999, 6, 160, 5};
        for (int i = 0; i < most.length; i++) {
            due("count(" + i + ")", x.count(i), most[i]);
        }
        int[] none = {MIN, -1, 9, MAX};
        for (int what : none) {
            due("count(" + what + ")", x.count(what), BAD);
        }
    }
}
