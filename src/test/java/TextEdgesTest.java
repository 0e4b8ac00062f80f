/** Sentence by sentence, the edges of THE TAPE, of TEXTS and of what they tell: promises 7 to 9. */
public final class TextEdgesTest extends Checks {
    private static final String REST = ";oath 2;joins 3;";
    private static final String[] TOKENS = {"like", "many", "share", "days", "one", "other", "7",
        "company", "oath", "joins", "or", "and", "not", "(", ")", ";", "+", "-", "*", "<", "="};
    private static final String SUM_BEGINS = " like many share days one other 7 - ( ";
    private static final String BEGINS = SUM_BEGINS + "not ";
    private static final String SUM_GOES_ON = " + - * or and ";
    private static final String GOES_ON = SUM_GOES_ON + "< = ";

    public static void main(String[] args) {
        bytes();
        tape();
        emptyTape();
        longestTokens();
        everyByte();
        numbers();
        blanks();
        endsTooEarly();
        tokensThatStand();
        words();
        firstFault();
        sixthOpen();
        openTill();
        sixTexts();
        force();
        firstRule();
        names();
        namesOfASet();
        wrapping();
        truths();
        order();
        company();
        oath();
        joins();
        finish();
    }

    /** The text has its fault at this place; it is a TEXT, if there is none. */
    private static void fault(String text, int place) {
        ThreeOfThem x = new ThreeOfThem();
        due("text() of [" + text + "]", read(x, text), place == NONE ? 1 : -100 - place);
        due("THE TAPE is empty then", x.count(7), 0);
        due("TEXTS", x.count(6), place == NONE ? 2 : 1);
    }

    private static void isText(String e) {
        fault("company " + e + REST, NONE);
    }

    private static void bytes() {
        says("A byte (0 .. 255) comes behind THE TAPE: how many it has. BAD; FULL.");
        ThreeOfThem x = new ThreeOfThem();
        due("-1", x.feed(-1), BAD);
        due("256", x.feed(256), BAD);
        due("MIN", x.feed(MIN), BAD);
        due("MAX", x.feed(MAX), BAD);
        due("0", x.feed(0), 1);
        due("255", x.feed(255), 2);
        due("two", x.count(7), 2);
        for (int i = 3; i <= 160; i++) {
            due("byte " + i, x.feed(i), i);
        }
        due("BAD is named first", x.feed(-1), BAD);
        due("BAD is named first", x.feed(256), BAD);
        due("FULL", x.feed(0), FULL);
    }

    private static void tape() {
        says("A TEXT is read from THE TAPE (160 bytes at most).");
        ThreeOfThem x = new ThreeOfThem();
        String text = "company 1;oath 2;joins 3" + " ".repeat(135) + ";";
        feed(x, text);
        due("160", x.count(7), 160);
        due("one more", x.feed(59), FULL);
        due("which doesn't come", x.count(7), 160);
        due("all 160 are read", x.text(), 1);
        due("the first of a new one", x.feed(59), 1);
        feed(x, "company 1;oath 2;joins 3;");
        due("nothing is left of the old one", x.text(), -100);
        for (int i = 0; i < 160; i++) {
            x.feed(' ');
        }
        due("160 blanks end too early", x.text(), -260);
    }

    private static void emptyTape() {
        says("THE TAPE, which is empty then, is a TEXT: its number; -100 less the place of its FAULT.");
        ThreeOfThem x = new ThreeOfThem();
        due("of an empty tape", x.text(), -100);
        due("again", x.text(), -100);
        due("a text", read(x, "company 1" + REST), 1);
        due("THE TAPE is empty then", x.count(7), 0);
        due("of an empty tape", x.text(), -100);
        due("a fault", read(x, "company 1 x"), -110);
        due("THE TAPE is empty then", x.count(7), 0);
        due("a fault takes no number", read(x, "company 1" + REST), 2);
        due("the rule is the same", x.count(8), 0);
    }

    private static void longestTokens() {
        says("TOKENS, each as long as can be:");
        fault("companylike;", 0);
        fault("company notlike;", 8);
        fault("company notnot 1;", 8);
        fault("company manyshare;", 8);
        fault("company one2;", 11);
        fault("company 1 orlike;", 10);
        fault("company likeor 1;", 8);
        fault("company1;oath2;joins3;", NONE);
        fault("company(1);oath(2);joins(3);", NONE);
        isText("1or 2and 3");
        isText("1or-2and(3)");
        isText("not(1)");
        isText("not-1");
        isText("1--1");
        isText("1<-1");
        fault("company 1<=2;", 10);
        fault("company 1==2;", 10);
        fault("company 1**2;", 10);
        fault("company 1 2;", 10);
    }

    /** Of each byte whether it begins a TOKEN that may stand ahead of a ONE, and behind one. */
    private static void everyByte() {
        says("WORDS (a .. z), NUMBERS (digits, 4 at most), SIGNS ( ) ; + - * < = ;");
        for (int b = 0; b < 256; b++) {
            boolean blank = b == 32 || b == 10;
            boolean digit = b >= '0' && b <= '9';
            boolean ahead = blank || digit || b == '(' || b == '-';
            boolean behind = blank || digit || ";+-*<=".indexOf(b) >= 0;
            fault("company " + (char) b, ahead ? 9 : 8);
            fault("company 1" + (char) b, behind ? 10 : 9);
            fault("company(1" + (char) b, behind && b != ';' || b == ')' ? 10 : 9);
        }
        for (char c = 'a'; c <= 'z'; c++) {
            fault("company like" + c + REST, 8);
            fault("company " + c + "like" + REST, 8);
        }
        fault("company like`", 12);
        fault("company like{", 12);
        fault("company likE", 8);
        fault("company LIKE", 8);
    }

    private static void numbers() {
        says("NUMBERS (digits, 4 at most)");
        isText("0");
        isText("9999");
        isText("0000");
        fault("company 00000" + REST, 8);
        fault("company 10000" + REST, 8);
        fault("company 99999", 8);
        fault("company 1+12345;", 10);
        fault("company 1 12345;", 10);
        fault("company 1234 5;", 13);
        fault("company " + "9".repeat(152), 8);
        due("9999", value("9999-9900"), 99);
        due("0012", value("0012"), 12);
        due("1234", value("1234-1200"), 34);
    }

    private static void blanks() {
        says("blanks (32, 10) may stand between");
        fault("\n company\n\n1 \n;oath 2 ;\njoins  3\n; \n", NONE);
        isText("  (\n1 )  *\n- 2 < 3  or\nnot 1");
        fault("com pany 1" + REST, 0);
        fault("company li ke" + REST, 8);
        fault("company 1 2" + REST, 10);
        int[] others = {0, 9, 11, 12, 13, 31, 33, 127, 133, 160, 255};
        for (int b : others) {
            fault("company 1 " + (char) b + " " + REST, 10);
            fault((char) b + "company 1" + REST, 0);
            fault("company 1" + REST + (char) b, 25);
        }
    }

    private static void endsTooEarly() {
        says("(the text's size, if it ends too early)");
        String text = "company like ; oath 20 ; joins like < 9 ;";
        int[] wordAt = {0, 8, 15, 25, 31};
        int[] wordEnd = {7, 12, 19, 30, 35};
        for (int size = 0; size < text.length(); size++) {
            int place = size;
            for (int w = 0; w < wordAt.length; w++) {
                // A WORD that is cut short is none.
                place = size > wordAt[w] && size < wordEnd[w] ? wordAt[w] : place;
            }
            fault(text.substring(0, size), place);
        }
        fault(text, NONE);
        fault("company (1", 10);
        fault("company (1 ", 11);
        fault("company not", 11);
        fault("company -", 9);
        fault("company 1 <\n\n", 13);
        fault("\n", 1);
        fault("company 1" + REST.substring(0, REST.length() - 1) + "  ", 26);
    }

    /** Behind these words these TOKENS may stand; each other one is the FAULT. */
    private static void stand(String words, String may) {
        for (String token : TOKENS) {
            boolean stands = may.contains(" " + token + " ");
            int size = words.length() + token.length() + 1;
            fault(words + token + " ", stands ? size : words.length());
        }
    }

    private static void tokensThatStand() {
        says("TEXT: company E ; oath E ; joins E ;");
        stand("", " company ");
        stand("company ", BEGINS);
        stand("company 1 ", GOES_ON + "; ");
        stand("company 1 ; ", " oath ");
        stand("company 1 ; oath ", BEGINS);
        stand("company 1 ; oath 1 ", GOES_ON + "; ");
        stand("company 1 ; oath 1 ; ", " joins ");
        stand("company 1 ; oath 1 ; joins ", BEGINS);
        fault("company 1 ; oath 1 ; joins 1 ;", NONE);
        stand("company 1 ; oath 1 ; joins 1 ; ", " ");
        says("E: AND { or AND }. AND: NOT { and NOT }.");
        stand("company 1 or ", BEGINS);
        stand("company 1 or 1 ", GOES_ON + "; ");
        stand("company 1 and ", BEGINS);
        stand("company 1 and 1 ", GOES_ON + "; ");
        says("NOT: not NOT, or SUM, perhaps < or = and a SUM.");
        stand("company not ", BEGINS);
        stand("company not not ", BEGINS);
        stand("company not 1 ", GOES_ON + "; ");
        stand("company 1 < ", SUM_BEGINS);
        stand("company 1 = ", SUM_BEGINS);
        stand("company 1 < 1 ", SUM_GOES_ON + "; ");
        stand("company 1 = 1 ", SUM_GOES_ON + "; ");
        stand("company not 1 = 1 ", SUM_GOES_ON + "; ");
        stand("company 1 < 1 or 1 ", GOES_ON + "; ");
        stand("company 1 < 1 and 1 ", GOES_ON + "; ");
        says("SUM: TERM { + or - TERM }. TERM: ONE { * ONE }.");
        stand("company 1 + ", SUM_BEGINS);
        stand("company 1 - ", SUM_BEGINS);
        stand("company 1 * ", SUM_BEGINS);
        stand("company 1 + 1 - 1 * 1 ", GOES_ON + "; ");
        stand("company 1 < 1 + 1 ", SUM_GOES_ON + "; ");
        stand("company 1 < 1 * 1 ", SUM_GOES_ON + "; ");
        says("ONE: a NUMBER, a NAME, - ONE, ( E ).");
        stand("company like ", GOES_ON + "; ");
        stand("company - ", SUM_BEGINS);
        stand("company - 1 ", GOES_ON + "; ");
        stand("company ( ", BEGINS);
        stand("company ( 1 ", GOES_ON + ") ");
        stand("company ( 1 < 1 ", SUM_GOES_ON + ") ");
        stand("company ( 1 < 1 ) ", GOES_ON + "; ");
        stand("company ( ( 1 ) ", GOES_ON + ") ");
        stand("company 1 < ( 1 < 1 ) ", SUM_GOES_ON + "; ");
    }

    private static void words() {
        says("NAMES are like many share days one other; company, oath, joins, or, and, not are KEYS.");
        String[] all = {"like", "many", "share", "days", "one", "other", "company", "oath", "joins", "or",
            "and", "not"};
        for (int i = 0; i < 12; i++) {
            boolean begins = i < 6 || i == 11;
            fault("company " + all[i], begins ? 8 + all[i].length() : 8);
            fault("company " + all[i].substring(1), 8);
            fault("company " + all[i] + "s", 8);
            fault("company " + all[i].substring(0, all[i].length() - 1), 8);
            fault("company z" + all[i].substring(1), 8);
            fault("company " + all[i].substring(0, all[i].length() - 1) + "z", 8);
        }
        says("a WORD that is neither KEY nor NAME");
        fault("company 1 + liking;", 12);
        fault("company 1 x 1;", 10);
        fault("a", 0);
        fault("company 1" + REST + "x", 25);
        fault("company " + "like".repeat(38), 8);
    }

    private static void firstFault() {
        says("FAULT: the place of the first byte of the first TOKEN that can't stand there");
        fault("company 1 ) x 99999", 10);
        fault("company x 1 )", 8);
        fault("company 99999 )", 8);
        fault("company 1 1 ?", 10);
        fault("company 1 ? 1 1", 10);
        fault("company ; oath ; joins ;", 8);
        fault("   joins 1 ;", 3);
        says("also of a byte that begins none");
        fault("?", 0);
        fault("company 1 + ?", 12);
        fault("company 1?" + REST, 9);
        fault("company 1" + REST + " ?", 26);
        fault("company like?" + REST, 12);
        says("a NUMBER that is too long");
        fault("company 1 + 00001;", 12);
        fault("12345", 0);
        fault("company 1" + REST + "12345", 25);
    }

    private static void sixthOpen() {
        says("a ( , a not, a - ahead of a ONE while 5 of these are open");
        String[] five = {"(((((", "-----", "not not not not not ", "not not(--", "-(-(-", "((((-",
            "not(-((", "not not not not("};
        for (String open : five) {
            int place = 8 + open.length();
            fault("company " + open, place);
            fault("company " + open + "1", place + 1);
            fault("company " + open + "(1", place);
            fault("company " + open + "-1", place);
            // Behind a - no not can stand either way.
            fault("company " + open + "not 1", place);
        }
        isText("(((((1)))))");
        isText("-----1");
        isText("not not not not not 1");
        isText("not(-(-1))");
        isText("(((((1-1)))))");
        isText("not not not not not 1-1");
        isText("-----1-1");
        fault("company 1;oath ((((((1", 20);
        fault("company 1;oath 1;joins ------1", 28);
    }

    private static void openTill() {
        says("(a ( till its ) , not and - till what they belong to ends)");
        isText("(((((1)))))+(((((1)))))");
        isText("((((1))+((1))))*(1)");
        isText("-----1*-----1+-----1-----1");
        isText("-----1------1");
        fault("company -----1*-----1-------1", 27);
        isText("not not not not not 1 and not not not not not 1");
        isText("not not not not not 1 or -----1");
        isText("(not not not not 1)+(((((1)))))");
        isText("((((-1+-1*-1<-1))))");
        isText("----(1)+-----1");
        isText("-(1)*-----1");
        isText("-----1<-----1");
        // The whole comparison belongs to a not.
        fault("company not not not not not 1<-1" + REST, 30);
        fault("company not not not not not 1+(1)" + REST, 30);
        fault("company not(1)<-----1" + REST, 19);
        isText("not(1)<----1");
        fault("company ((((1)+---1", 17);
        isText("((((1)+--1)))");
        fault("company (((((1)(" + REST, 15);
        isText("(((((1)-(1)))))");
        fault("company (((((1)-((" + REST, 17);
        // Each part begins with none open.
        fault("company(((((1)))));oath(((((1)))));joins-----1;", NONE);
    }

    private static void sixTexts() {
        says("There are 6 TEXTS at most, TEXT 0 with them.");
        ThreeOfThem x = new ThreeOfThem();
        due("TEXT 0", x.count(6), 1);
        for (int i = 0; i < 9; i++) {
            due("a fault takes no room", read(x, ";"), -100);
        }
        for (int i = 1; i <= 5; i++) {
            due("TEXT " + i, read(x, "company 1" + REST), i);
            due("so many", x.count(6), i + 1);
        }
        due("a seventh", read(x, "company 1" + REST), FULL);
        due("so many", x.count(6), 6);
        due("the last", x.force(5), 0);
        due("none behind it", x.force(6), BAD);
        says("FULL: no TEXT more has room (THE TAPE stays).");
        due("THE TAPE", x.count(7), 25);
        due("again", x.text(), FULL);
        due("THE TAPE", x.count(7), 25);
        due("it goes on", x.feed('?'), 26);
        due("also with a fault", x.text(), FULL);
        due("THE TAPE", x.count(7), 26);
        ThreeOfThem y = new ThreeOfThem();
        for (int i = 1; i <= 5; i++) {
            read(y, "company 1" + REST);
        }
        due("also of an empty tape", y.text(), FULL);
    }

    private static void force() {
        says("A TEXT is THE RULE: which was. BAD.");
        ThreeOfThem x = new ThreeOfThem();
        due("-1", x.force(-1), BAD);
        due("1, of one", x.force(1), BAD);
        due("MIN", x.force(MIN), BAD);
        due("MAX", x.force(MAX), BAD);
        due("0", x.force(0), 0);
        read(x, "company 1" + REST);
        due("1, of two", x.force(1), 0);
        due("2, of two", x.force(2), BAD);
        due("still 1", x.force(1), 1);
        due("0", x.force(0), 1);
        read(x, ";");
        due("2, of two and a fault", x.force(2), BAD);
    }

    private static void firstRule() {
        says("TEXT 0, at first THE RULE, is: company like ; oath 20 ; joins like < 9 ;");
        ThreeOfThem x = plain(4);
        x.set(0, 0, 9999);
        due("THE RULE", x.count(8), 0);
        x.like(0, 3, 0);
        x.like(0, 1, 9);
        due("company", x.told(0, 6), 2499 + 0 + 9 + 5);
        x.like(0, 3, 8);
        due("joins, liking 8", x.would(7, 3), 1);
        x.like(0, 3, 9);
        due("joins, liking 9", x.would(7, 3), 0);
        // 26 more by the rent, 5 less by company: 21.
        ThreeOfThem y = plain(4);
        y.set(0, 0, 312);
        y.swear(0, 3, 1);
        due("oath", y.would(7, 3), 1);
        y.set(0, 0, 300);
        due("25 less 5 less 20", y.would(7, 3), 0);
        y.swear(0, 3, 0);
        due("not sworn", y.would(7, 3), 1);
    }

    /** What company is worth to 6 of seven, of each other one, by a rent of 703. */
    private static int value(String e) {
        ThreeOfThem x = plain(7);
        x.set(0, 0, 703);
        x.set(2, 0, 38);
        x.like(6, 3, 8);
        rule(x, "company (other=3)*(" + e + ");oath 0;joins 0;");
        return x.told(6, 6) - 100;
    }

    private static void names() {
        says("like: how the one LIKES the other one; many: how many are IN; share: RENT by many (cut); "
            + "days: DAY; one, other: their numbers.");
        due("like", value("like"), 8);
        due("many", value("many"), 7);
        due("share", value("share-10"), 90);
        due("days", value("days"), 38);
        due("one", value("one"), 6);
        due("other", value("other"), 3);
        ThreeOfThem x = plain(7);
        rule(x, "company days-940;oath 0;joins 0;");
        due("day 0", x.told(0, 6), 14 - 6 * 99);
        x.set(2, 0, 999);
        due("day 999", x.told(0, 6), 14 + 6 * 59);
        rule(x, "company like;oath 0;joins 0;");
        x.like(0, 6, 0);
        x.like(0, 5, 9);
        x.like(6, 0, 9);
        due("liking 0 and 9", x.told(0, 6), 14 + 0 + 9 + 4 * 5);
    }

    private static void namesOfASet() {
        says("Of one and another one, some being IN (those who are, or a set that is looked at)");
        ThreeOfThem x = house(5, 700, "company 0;oath 0;joins many=4 and share=175;");
        due("of five who are IN", x.now(2), 0);
        due("of a set of four", x.end(15, 0), 7);
        x.set(4, 4, 0);
        due("of four who are IN", x.now(2), 4);
        due("of five, one more being IN", x.shield(0, 4), 1);
        rule(x, "company 10*(many=4)+share;oath 0;joins 0;");
        due("company of four: 175 is above 99", x.told(0, 6), 175 + 3 * 99);
        x.set(0, 0, 40);
        due("company of four: 10 and 10", x.told(0, 6), 10 + 3 * 20);
    }

    private static void wrapping() {
        says("An E is an int (32 bits, wrapping)");
        due("2^31 - 1", value("4096*4096*128-1"), 99);
        due("2^31", value("4096*4096*128"), -99);
        due("2^31 is below 0", value("4096*4096*128<0"), 1);
        due("2^31 - 1 isn't", value("4096*4096*128-1<0"), 0);
        due("2^31 - 1 and 1", value("4096*4096*128-1+1<0"), 1);
        due("-2^31 - 1", value("0<-(4096*4096*128)-1"), 1);
        due("- of -2^31", value("-(4096*4096*128)<0"), 1);
        due("- of -2^31", value("-(4096*4096*128)=4096*4096*128"), 1);
        due("2^32", value("4096*4096*256"), 0);
        due("2^32 and 5", value("4096*4096*256+5"), 5);
        due("beyond 2^32 and back", value("9999*9999*43-417*9999-3159"), 5);
        due("2^33 isn't true", value("4096*4096*512 or 0"), 0);
    }

    private static void truths() {
        says("of or, and, not, <, = 1 or 0 (what is not 0 is true).");
        int[] values = {0, 1, 2, -1, 77};
        for (int a : values) {
            due("not " + a, value("not " + a), a == 0 ? 1 : 0);
            for (int b : values) {
                due(a + " or " + b, value(a + " or " + b), a != 0 || b != 0 ? 1 : 0);
                due(a + " and " + b, value(a + " and " + b), a != 0 && b != 0 ? 1 : 0);
                due(a + " < " + b, value(a + "<" + b), a < b ? 1 : 0);
                due(a + " = " + b, value(a + "=" + b), a == b ? 1 : 0);
            }
        }
        due("true by a bit beyond the lowest 8", value("256 and 1024"), 1);
        due("the least int is true", value("not 4096*4096*128"), 0);
    }

    /** By the grammar: what binds more tightly, and that like ones go from the left. */
    private static void order() {
        says("E: AND { or AND }.");
        due("and ahead of or", value("1 or 1 and 0"), 1);
        due("and ahead of or", value("0 and 1 or 1"), 1);
        says("AND: NOT { and NOT }.");
        due("not ahead of and", value("not 0 and 0"), 0);
        due("not behind and", value("1 and not 0 and 1"), 1);
        says("not NOT, or SUM, perhaps < or = and a SUM.");
        due("a comparison ahead of not", value("not 2 < 1"), 1);
        due("a comparison ahead of not", value("not 0 = 1"), 1);
        due("not twice", value("not not 9"), 1);
        due("a sum ahead of a comparison", value("1 + 1 < 1 + 2"), 1);
        says("SUM: TERM { + or - TERM }.");
        due("from the left", value("9-3-2"), 4);
        due("from the left", value("9-3+2"), 8);
        due("a term ahead of a sum", value("9-2*3"), 3);
        says("TERM: ONE { * ONE }.");
        due("three", value("2*3*4"), 24);
        due("a - ahead of a term", value("-2*-3"), 6);
        due("a - ahead of a sum", value("-2+3"), 1);
        due("( ) ahead of all", value("2*(3+(4-1))"), 12);
    }

    private static void company() {
        says("company: what it is worth to the one that the other one is IN (-99 .. 99, else the bound).");
        int[][] bounds = {{98, 98}, {99, 99}, {100, 99}, {9999, 99}, {0, 0}, {-98, -98}, {-99, -99},
            {-100, -99}, {-9999, -99}};
        for (int[] b : bounds) {
            due("company " + b[0], value("" + b[0]), b[1]);
        }
        ThreeOfThem x = plain(7);
        rule(x, "company 100;oath 0;joins 0;");
        due("each by itself", x.told(0, 6), 14 + 6 * 99);
        ThreeOfThem y = new ThreeOfThem();
        y.inmate(3, 9);
        y.inmate(0, 0);
        rule(y, "company 100;oath 0;joins 0;");
        due("what one BRINGS comes to the bound", y.told(1, 6), 50 + 99 + 22);
    }

    /** Four by a rent of 12 times as much, of whom 0 and 3 are sworn, by an oath of this price. */
    private static int breaks(int gain, String price) {
        ThreeOfThem x = house(4, 12 * gain, "company 0;oath " + price + ";joins 1;");
        x.swear(0, 3, 1);
        return x.would(7, 3);
    }

    private static void oath() {
        says("oath: what it costs the one to turn out the other one, being sworn (0 .. 99, else the bound).");
        due("0, for 1", breaks(1, "0"), 1);
        due("1, for 1", breaks(1, "1"), 0);
        due("below 0 is 0: for 1", breaks(1, "-1"), 1);
        due("below 0 is 0: for 0", breaks(0, "-9999"), 0);
        due("98, for 99", breaks(99, "98"), 1);
        due("99, for 99", breaks(99, "99"), 0);
        due("99, for 100", breaks(100, "99"), 1);
        due("100 is 99: for 100", breaks(100, "100"), 1);
        due("9999 is 99: for 100", breaks(100, "9999"), 1);
        due("9999 is 99: for 99", breaks(99, "9999"), 0);
        due("2^31 is below 0", breaks(1, "4096*4096*128"), 1);
        due("2^31 - 1 is above 99", breaks(99, "4096*4096*128-1"), 0);
    }

    private static void joins() {
        says("joins: whether the one would ever join against the other one (not 0).");
        String[] yes = {"1", "2", "-1", "256", "9999*9999", "4096*4096*128"};
        String[] no = {"0", "1-1", "4096*4096*256", "-0"};
        for (String e : yes) {
            due("joins " + e, house(4, 120, "company 0;oath 0;joins " + e + ";").would(7, 3), 1);
        }
        for (String e : no) {
            due("joins " + e, house(4, 120, "company 0;oath 0;joins " + e + ";").would(7, 3), 0);
        }
        ThreeOfThem x = house(4, 120, "company 0;oath 0;joins one-2;");
        due("each of a band", x.would(7, 3), 0);
        due("each of a band", x.would(11, 2), 1);
    }
}
