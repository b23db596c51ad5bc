/** A test for each sentence of the document's Terms, part 1, that names a boundary. */
public final class EdgeTermsTest {
    private static final int NONE = Edges.NONE, BAD = Edges.BAD, FULL = Edges.FULL, NEVER = Edges.NEVER;
    private static final int HEARER = 0, BOUND = 1, KEEPER = 2, SAVED = 3, EARLY = 4, DEAF = 5, TOLD = 6;
    /** Seven at most, of whom these are all but the first one, and but one more. */
    private static final int ALL_OTHERS = 126;

    private static void due(String call, long got, long want) {
        Edges.due(call, got, want);
    }

    private static void taken(String text) {
        OneFewer x = new OneFewer();
        due("town() of " + text, Edges.town(x, text), 0);
        due("count(1) behind " + text, x.count(1), 1);
    }

    private static void fault(String text, int place) {
        OneFewer x = new OneFewer();
        due("town() of " + text, Edges.town(x, text), -10 - place);
        due("count(1) behind " + text, x.count(1), 0);
        due("count(4) behind " + text, x.count(4), 0);
    }

    /** Whom the first of 7 HEARERS may tell, by an E of shun, at DAY 0 and NUMBER 3. */
    private static void may(String either, int want) {
        OneFewer x = Edges.friends(0, 0, 0, 0, 0, 0, 0);
        due("town() of shun " + either, Edges.town(x, "shun " + either), 0);
        x.begin(0, 3);
        due("MAY by " + either, x.of(0, 7), want);
    }

    private static String times(int times, String text) {
        return text.repeat(times);
    }

    // ---- people

    private static void people() {
        Edges.test("PEOPLE are numbered from 0 on, 7 at most", () -> {
            OneFewer x = new OneFewer();
            due("of(0, 0) of nobody", x.of(0, 0), NONE);
            for (int i = 0; i < 7; i++) {
                due("person(0, 0)", x.person(0, 0), i);
                due("of the newest", x.of(i, 2), 0);
                due("of one more", x.of(i + 1, 2), NONE);
            }
            due("the eighth", x.person(0, 0), FULL);
            due("count(0)", x.count(0), 7);
            due("of(7, 0)", x.of(7, 0), NONE);
            due("of(-1, 0)", x.of(-1, 0), NONE);
        });
        Edges.test("each of a KIND: 0 HEARER; 1 BOUND, 2 KEEPER, 3 SAVED under HEARER; 4 EARLY under BOUND; "
            + "5 DEAF under KEEPER; 6 TOLD under SAVED", () -> {
            OneFewer x = new OneFewer();
            due("person(-1, 0)", x.person(-1, 0), NONE);
            due("person(7, 0)", x.person(7, 0), NONE);
            for (int kind = 0; kind < 7; kind++) {
                due("person(" + kind + ", 0)", x.person(kind, 0), kind);
                due("of(" + kind + ", 0)", x.of(kind, 0), kind);
            }
        });
        Edges.test("a number v (0 .. 9)", () -> {
            OneFewer x = new OneFewer();
            due("v -1", x.person(0, -1), BAD);
            due("v 0", x.person(0, 0), 0);
            due("of(0, 1)", x.of(0, 1), 0);
            due("v 9", x.person(0, 9), 1);
            due("of(1, 1)", x.of(1, 1), 9);
            due("v 10", x.person(0, 10), BAD);
        });
        Edges.test("Two of the PEOPLE KNOW each other, or not (not at first).", () -> {
            OneFewer x = Edges.friends(0, 0, 0, 0, 0, 0);
            x.person(0, 0);
            for (int one = 0; one < 6; one++) {
                due("of(" + one + ", 6)", x.of(one, 6), 63 - (1 << one));
                due("know(6, " + one + ", false)", x.know(6, one, false), 0);
            }
            due("of(6, 6) at first", x.of(6, 6), 0);
        });
        Edges.test("DAY: 0 at first.", () -> due("told(0)", new OneFewer().told(0), 0));
        Edges.test("Each has HEARD the word, or not (nobody at first)", () -> {
            OneFewer x = Edges.friends(0, 0);
            due("told(4)", x.told(4), 0);
            due("of(0, 2)", x.of(0, 2), 0);
            x.begin(0, 9);
            x.person(0, 0);
            due("one who came behind, of(2, 2)", x.of(2, 2), 0);
            due("told(4)", x.told(4), 1);
        });
        Edges.test("who has has a NUMBER (0 .. 9), has TOLD it, or not yet, and HEARD it on a DAY.", () -> {
            OneFewer x = Edges.friends(0, 0);
            due("NUMBER -1", x.begin(0, -1), BAD);
            due("NUMBER 10", x.begin(0, 10), BAD);
            due("not HEARD", x.of(0, 3), NEVER);
            due("not HEARD, the DAY", x.of(0, 5), NEVER);
            due("not TOLD at first", x.of(0, 4), 0);
            due("not TOLD at first", x.of(1, 4), 0);
            due("NUMBER 9", x.begin(0, 9), 1);
            due("of(0, 3)", x.of(0, 3), 9);
            due("of(0, 5)", x.of(0, 5), 0);
            due("not yet TOLD", x.of(0, 4), 0);
            due("NUMBER 0", x.begin(0, 0), 1);
            due("of(0, 3)", x.of(0, 3), 0);
            x.day();
            due("TOLD it, to nobody", x.of(0, 4), 1);
        });
    }

    // ---- towns

    private static void tape() {
        Edges.test("THE TAPE (bytes, 100 at most)", () -> {
            OneFewer x = new OneFewer();
            String text = "shun p=1" + times(23, "|p=1");
            due("the size", text.length(), 100);
            Edges.feed(x, text);
            due("count(4)", x.count(4), 100);
            due("feed(49) at 100", x.feed('1'), FULL);
            due("a TOWN of 100 bytes", x.town(), 0);
            due("feed(49) behind it", x.feed('1'), 1);
            taken(text.substring(0, 96));
            taken("fine 99 p=10" + times(22, "|p=1"));
        });
        Edges.test("CLAUSES, 10 at most, with ; between", () -> {
            taken("law 1");
            taken("law 1" + times(8, ";law 1"));
            taken("law 1" + times(9, ";law 1"));
            fault("law 1" + times(10, ";law 1"), 59);
            fault("law 1" + times(9, ";law 1") + ";", 59);
            fault("shun p=1" + times(9, ";shun p=1") + ";law 1", 89);
            fault("", 0);
            fault(";law 1", 0);
            fault("law 1;", 6);
            fault("law 1;;law 1", 6);
            fault("law 1law 1", 5);
            fault("law 1,law 1", 5);
            fault("law 1:law 1", 5);
            fault("law 1;fewer 2;", 14);
        });
        Edges.test("CLAUSES, 10 at most, with ; between: shun E; fine n E; fewer n; law n", () -> {
            OneFewer x = Edges.friends(0, 0, 0, 0, 0, 0, 0);
            due("ten shun", Edges.town(x, times(9, "shun o=9;") + "shun o=6"), 0);
            x.begin(0, 3);
            due("the tenth counts", x.of(0, 7), ALL_OTHERS - 64);
            due("ten shun again", Edges.town(x, "shun o=1;" + times(7, "shun o=9;") + "shun o=5;shun o=6"), 1);
            due("the first, the ninth and the tenth count", x.of(0, 7), ALL_OTHERS - 2 - 32 - 64);
            due("nine fine, as many as THE TAPE takes", Edges.town(x, "fine 1 p<9" + times(8, ";fine 9 p<9")), 2);
            due("all nine count", x.of(0, 10), 73);
            due("none of shun", Edges.town(x, "law 0"), 3);
            due("MAY", x.of(0, 7), ALL_OTHERS);
            fault("s", 1);
            fault("f", 1);
            fault("l", 1);
            fault("fi", 2);
            fault("fe", 2);
            fault("fa", 1);
            fault("shunt p=1", 4);
            fault("fewest 1", 4);
            fault("lawn 1", 3);
            fault("Law 1", 0);
            fault("fine p=1", 5);
            fault("fine 1", 6);
            fault("fine 1 ", 7);
            fault("fewer 1 p=1", 7);
            fault("law p=1", 4);
            fault("shun 1 p=1", 5);
            fault("shun", 4);
            fault("shun ", 5);
        });
        Edges.test("(one blank ahead of each part behind the word; n 1 or 2 digits, no 0 ahead of another)", () -> {
            blanks();
            String[][] parts = {{"fine ", " p=1"}, {"fewer ", ""}, {"law ", ""}, {"shun p=", ""}, {"shun p=", "&o=1"}};
            for (String[] part : parts) {
                digits(part[0], part[1]);
            }
        });
    }

    private static void blanks() {
        fault("shunp=1", 4);
        fault("shun  p=1", 5);
        fault("shun\tp=1", 4);
        fault(" shun p=1", 0);
        fault("shun p=1 ", 8);
        fault("shun p =1", 6);
        fault("shun p= 1", 7);
        fault("shun p=1 &p=1", 8);
        fault("shun p=1& p=1", 9);
        fault("shun ( p=1)", 6);
        fault("fine1 p=1", 4);
        fault("fine  1 p=1", 5);
        fault("fine 1p=1", 6);
        fault("fine 1  p=1", 7);
        fault("fewer1", 5);
        fault("fewer  1", 6);
        fault("law1", 3);
        fault("law  1", 4);
        fault("law 1 ", 5);
        fault("law 1 ;law 1", 5);
        fault("law 1; law 1", 6);
    }

    private static void digits(String ahead, String behind) {
        int place = ahead.length();
        for (String n : new String[] {"0", "1", "9", "10", "90", "99"}) {
            taken(ahead + n + behind);
        }
        fault(ahead + behind, place);
        for (String sign : new String[] {"-", "/", ":", "x", "+"}) {
            fault(ahead + sign + behind, place);
            fault(ahead + "1" + sign + behind, place + 1);
            fault(ahead + "0" + sign + behind, place + 1);
            fault(ahead + "10" + sign + behind, place + 2);
        }
        fault(ahead + "00" + behind, place + 1);
        fault(ahead + "01" + behind, place + 1);
        fault(ahead + "09" + behind, place + 1);
        fault(ahead + "100" + behind, place + 2);
        fault(ahead + "999" + behind, place + 2);
    }

    private static void conditions() {
        Edges.test("E: T, or T|E. T: F, or F&T. F: !F, (E), or a TEST", () -> {
            for (String sign : new String[] {"|", "&", ")", ";"}) {
                fault("shun " + sign, 5);
                fault("shun " + sign + "p=1", 5);
                fault("shun !" + sign, 6);
                fault("shun (" + sign, 6);
            }
            for (String sign : new String[] {"|", "&"}) {
                fault("shun p=1" + sign, 9);
                fault("shun p=1" + sign + ";law 1", 9);
                fault("shun p=1" + sign + "|p=1", 9);
                fault("shun p=1" + sign + "&p=1", 9);
                fault("shun (p=1" + sign + ")", 10);
            }
            fault("shun (p=1", 9);
            fault("shun (p=1;", 9);
            fault("shun p=1)", 8);
            fault("shun (p=1))", 10);
            fault("shun p=1!p=1", 8);
            fault("shun p=1(p=1)", 8);
            fault("shun (p=1)p=1", 10);
            fault("shun (p=1)1", 10);
            may("o=1", ALL_OTHERS - 2);
            may("!o=1", 2);
            may("!!o=1", ALL_OTHERS - 2);
            may("(((o=1)))", ALL_OTHERS - 2);
            may("o=1|o=2", ALL_OTHERS - 6);
            may("o<3&o>1", ALL_OTHERS - 4);
            may("o=1|o=2&o=3", ALL_OTHERS - 2);
            may("o=3&o=2|o=1", ALL_OTHERS - 2);
            may("(o=1|o=2)&o=2", ALL_OTHERS - 4);
            may("o=2&(o=1|o=2)", ALL_OTHERS - 4);
            may("!o=1&!o=2", 6);
            may("!(o=1&!o=2)", 2);
            may("o=1|o=2|o=3|o=4|o=5|o=6", 0);
            may("o>0&o>1&o>2&o>3&o>4&o>5", ALL_OTHERS - 64);
        });
        Edges.test("a TEST: p or o or k or n or d, one of < = >, a number likewise", () -> {
            for (String sign : new String[] {"q", "j", "l", "m", "e", "c", "P", "O", "K", "N", "D", "1", "="}) {
                fault("shun " + sign + "=1", 5);
            }
            for (String sign : new String[] {";", "?", "!", "1", "p", " "}) {
                fault("shun p" + sign + "1", 6);
            }
            fault("shun p", 6);
            fault("shun p=", 7);
            fault("shun p==1", 7);
            fault("shun p<=1", 7);
            fault("shun p<>1", 7);
            fault("shun p=p", 7);
            may("o<3", ALL_OTHERS - 6);
            may("o=3", ALL_OTHERS - 8);
            may("o>3", 14);
            may("o<0", ALL_OTHERS);
            may("o>0", 0);
            may("o>6", ALL_OTHERS);
            may("o<7", 0);
            may("o<99", 0);
            may("o=99", ALL_OTHERS);
            may("o>99", ALL_OTHERS);
            may("p<1", 0);
            may("p=0", 0);
            may("p>0", ALL_OTHERS);
        });
    }

    private static void facts() {
        Edges.test("of one who would tell another one p the number of the one, o of the other, k KIND", () -> {
            OneFewer x = Edges.friends(HEARER, BOUND, KEEPER, SAVED, EARLY, DEAF, TOLD);
            Edges.town(x, "shun p=6&o=0|p=0&o=6|k=6&o=1|k=0&o=5|p=3&k=3&o=3");
            x.begin(6, 9);
            due("the greatest meets all but 0 and 1", x.of(6, 7), 63 - 3);
            x.begin(0, 9);
            due("the least meets all but 6 and 5", x.of(0, 7), ALL_OTHERS - 64 - 32);
            x.begin(3, 9);
            due("o is never the one", x.of(3, 7), 127 - 8);
        });
        Edges.test("n NUMBER of the one (9, if it has not HEARD it)", () -> {
            OneFewer x = Edges.strangers(0, 0);
            Edges.town(x, "fine 1 n=9;fine 2 n=0;fine 4 n>9;fine 8 n<9");
            due("not HEARD", x.of(0, 10), 1);
            x.begin(0, 0);
            due("NUMBER 0", x.of(0, 10), 10);
            due("the other", x.of(1, 10), 1);
            x.begin(0, 9);
            due("NUMBER 9", x.of(0, 10), 1);
            x.begin(0, 8);
            due("NUMBER 8", x.of(0, 10), 8);
            x.begin(1, 0);
            due("not HEARD any more", x.of(0, 10), 1);
        });
        Edges.test("d DAY modulo 7", () -> {
            OneFewer x = Edges.strangers(0);
            Edges.town(x, "fine 1 d=0;fine 2 d=1;fine 4 d=6;fine 8 d>6");
            int[] want = {1, 2, 0, 0, 0, 0, 4, 1, 2, 0, 0, 0, 0, 4, 1, 2};
            for (int day = 0; day < want.length; day++) {
                due("of(0, 10) on DAY " + day, x.of(0, 10), want[day]);
                x.day();
            }
        });
        Edges.test("(of fine: o 9)", () -> {
            OneFewer x = Edges.friends(0, 0, 0, 0, 0, 0, 0);
            Edges.town(x, "fine 1 o=9;fine 2 o<9;fine 4 o>9;fine 8 o>8;fine 16 o<10");
            due("of(0, 10)", x.of(0, 10), 25);
            x.begin(0, 9);
            x.day();
            due("FINES, 3 missing", x.told(1), 75);
        });
    }

    private static void open() {
        Edges.test("At most 5 of ! and ( are open (a ( till its ) , a ! till its F ends).", () -> {
            taken("shun !!!!!p=1");
            taken("shun (((((p=1)))))");
            taken("shun !(!(!p=1))");
            taken("shun (!(!(p=1)))");
            taken("fine 1 (((((p=1)))))");
            fault("shun !!!!!!p=1", 10);
            fault("shun ((((((p=1))))))", 10);
            fault("shun !(!(!(p=1)))", 10);
            fault("shun (!(!(!p=1)))", 10);
            fault("fine 1 ((((((p=1))))))", 12);
            // what has ended is open no more
            taken("shun !!!!!p=1&!!!!!p=1|!!!!!p=1");
            taken("shun (((((p=1)))))|(((((p=1)))))&!!!!!p=1");
            taken("shun ((((!p=1&!p=1))))");
            taken("shun ((((!p=1)&!p=1)))&!!!!!p=1");
            taken("shun !(p=1)&!!!!!p=1");
            taken("shun !!!!!p=1;shun (((((p=1)))))");
            fault("shun !!!!!p=1&!!!!!!p=1", 19);
            fault("shun (((((p=1)))))&((((((", 24);
            fault("shun (!p=1&!!!!!p=1)", 15);
            // the ! stands open till the ) of its F
            fault("shun !!!!(p=1&!p=1)", 14);
            fault("shun !(((p=1|((p=1)))))", 14);
            fault("shun (((((p=1|(p=1))))))", 14);
        });
        Edges.test("FAULT: the place of the first byte with which no TOWN can go on (the size, if it ends too early).", () -> {
            fault("x", 0);
            fault("x;law 1", 0);
            fault("\0", 0);
            fault("law 1\0", 5);
            fault("\177", 0);
            fault("shun q=1;law x", 5);
            fault("law 1;x", 6);
            fault("law 1;law 1;law x", 16);
            fault("s", 1);
            fault("shun p=1;", 9);
            String almost = "shun p=1" + times(23, "|p=1");
            fault(almost.substring(0, 99), 99);
            fault(almost.substring(0, 99) + "x", 99);
            fault(almost.substring(0, 98) + "xx", 98);
            fault("fewer 11;" + almost.substring(0, 91), 100);
        });
    }

    private static void manyTowns() {
        Edges.test("TOWNS are numbered from 0 on, 5 at most; the newest one holds", () -> {
            OneFewer x = new OneFewer();
            for (int i = 0; i < 5; i++) {
                due("count(1)", x.count(1), i);
                due("a FAULT has no number", Edges.town(x, "fewer x"), -16);
                due("town()", Edges.town(x, "fewer " + (i + 2)), i);
                due("the newest one's fewer", x.told(2), i + 2);
            }
            due("the sixth", Edges.town(x, "fewer 9"), FULL);
            due("count(1)", x.count(1), 5);
            due("the fifth holds", x.told(2), 6);
            OneFewer full = Edges.friends(0, 0, 0, 0, 0, 0, 0);
            full.begin(0, 3);
            for (int i = 0; i < 5; i++) {
                due("a TOWN of 100 bytes", Edges.town(full, "shun o=9" + times(22, "|o=9") + "|o=" + (i + 1)), i);
                due("its last TEST counts, and none of an older one", full.of(0, 7), ALL_OTHERS - (2 << i));
            }
            OneFewer y = new OneFewer();
            Edges.town(y, "fewer 2;law 1;fine 5 p<9");
            Edges.town(y, "law 0");
            y.person(0, 0);
            due("fewer of an older one", y.told(2), 1);
            due("law of an older one", y.told(3), 0);
            due("fine of an older one", y.of(0, 10), 0);
        });
        Edges.test("without one there are no CLAUSES", () -> {
            OneFewer x = Edges.friends(0, 0, 0);
            x.begin(1, 2);
            due("all it KNOWS", x.of(1, 7), 5);
            due("FINE", x.of(1, 10), 0);
            due("fewer", x.told(2), 1);
            due("law", x.told(3), 0);
            due("a FAULT is none", Edges.town(x, "fewer 5;fine 1 p=1;"), -29);
            due("fewer", x.told(2), 1);
            due("FINE", x.of(1, 10), 0);
        });
        Edges.test("One MEETS another one on a DAY, if they KNOW each other and no E of shun holds.", () -> {
            OneFewer x = Edges.strangers(0, 0, 0);
            x.begin(0, 1);
            due("who KNOWS nobody", x.of(0, 7), 0);
            x.know(0, 2, true);
            due("who KNOWS one", x.of(0, 7), 4);
            Edges.town(x, "shun p=2");
            due("shun of the other way", x.of(0, 7), 4);
            Edges.town(x, "shun p=1;shun d=0;shun o=0");
            due("one of three holds", x.of(0, 7), 0);
            x.day();
            x.begin(0, 1);
            due("none of three holds on the next DAY", x.of(0, 7), 4);
        });
        Edges.test("FINE of one for a head: the n of all fine whose E holds, together.", () -> {
            OneFewer x = Edges.strangers(0, 0);
            due("without a TOWN", x.of(0, 10), 0);
            Edges.town(x, "fine 99 p=1");
            due("none holds", x.of(0, 10), 0);
            due("one holds", x.of(1, 10), 99);
            Edges.town(x, "fine 0 p=0");
            due("fine 0", x.of(0, 10), 0);
            Edges.town(x, times(7, "fine 99 p=0;") + "fine 99 p=1");
            due("seven hold", x.of(0, 10), 693);
            due("the last holds", x.of(1, 10), 99);
        });
        Edges.test("fewer (1 without), law (0 without; 0 even, 1 odd): the last n.", () -> {
            OneFewer x = new OneFewer();
            Edges.town(x, "shun p=1");
            due("fewer without", x.told(2), 1);
            due("law without", x.told(3), 0);
            Edges.town(x, "fewer 0;law 1");
            due("fewer 0", x.told(2), 0);
            due("law 1", x.told(3), 1);
            Edges.town(x, "law 99;fewer 99");
            due("fewer 99", x.told(2), 99);
            due("law 99", x.told(3), 1);
            Edges.town(x, "law 1;fewer 3;law 98;fewer 2");
            due("the last fewer", x.told(2), 2);
            due("the last law", x.told(3), 0);
            Edges.town(x, "law 0;law 3;fewer 0;shun p=1");
            due("the last law", x.told(3), 1);
            due("the last fewer", x.told(2), 0);
        });
    }

    // ---- who tells whom

    private static void choosing() {
        Edges.test("MAY of one who has HEARD it: those it MEETS who have not HEARD it.", () -> {
            OneFewer x = Edges.friends(0, 0, 0);
            due("not HEARD", x.of(0, 7), NEVER);
            x.begin(0, 1);
            due("all others", x.of(0, 7), 6);
            x.day();
            due("all but who HEARD it", x.of(1, 7), 4);
            due("of one who has TOLD it, too", x.of(0, 7), 4);
            x.begin(0, 2);
            x.day();
            due("all have HEARD it", x.of(1, 7), 0);
        });
        Edges.test("ASKED of it: how many it tells: NUMBER; KEEPER, DEAF: none, if NUMBER is v modulo 3 or less; EARLY: 1 more.", () -> {
            int[] keeps = {0, 1, 2, 0, 1, 2, 0, 1, 2, 0};
            for (int v = 0; v <= 9; v++) {
                OneFewer x = new OneFewer();
                for (int kind = 0; kind < 7; kind++) {
                    x.person(kind, v);
                    due("not HEARD", x.of(kind, 8), NEVER);
                }
                for (int number = 0; number <= 9; number++) {
                    int kept = number <= keeps[v] ? 0 : number;
                    int[] want = {number, number, kept, number, number + 1, kept, number};
                    for (int kind = 0; kind < 7; kind++) {
                        x.begin(kind, number);
                        due("ASKED of KIND " + kind + ", v " + v + ", NUMBER " + number, x.of(kind, 8), want[kind]);
                    }
                }
            }
        });
        Edges.test("It chooses as many of MAY as it is ASKED (all, if there are fewer)", () -> {
            for (int kind = 0; kind < 7; kind++) {
                OneFewer x = Edges.friends(HEARER, HEARER, HEARER, kind);
                int more = kind == EARLY ? 1 : 0;
                for (int number = 0; number <= 9; number++) {
                    x.begin(3, number);
                    due("how many of 3 by KIND " + kind + ", NUMBER " + number, Integer.bitCount(x.of(3, 9)),
                        Math.min(3, number + more));
                }
                OneFewer alone = Edges.strangers(kind);
                alone.begin(0, 9);
                due("of nobody by KIND " + kind, alone.of(0, 9), 0);
            }
            due("not HEARD", Edges.friends(0, 0).of(0, 9), NEVER);
        });
        Edges.test("HEARER, KEEPER, DEAF: the least numbers.", () -> {
            for (int kind : new int[] {HEARER, KEEPER, DEAF}) {
                OneFewer x = Edges.friends(0, 0, 0, kind, 0, 0, 0);
                int[] want = {0, 1, 3, 7, 23, 55, 119, 119};
                for (int number = 0; number < want.length; number++) {
                    x.begin(3, number);
                    due("KIND " + kind + ", NUMBER " + number, x.of(3, 9), want[number]);
                }
            }
        });
        Edges.test("BOUND, EARLY: those who KNOW most people (of several the least numbers).", () -> {
            for (int kind : new int[] {BOUND, EARLY}) {
                OneFewer x = Edges.friends(0, 0, 0, kind, 0, 0, 0);
                int[] alike = {0, 1, 3, 7, 23, 55, 119, 119};
                for (int asked = 1; asked < alike.length; asked++) {
                    x.begin(3, kind == EARLY ? asked - 1 : asked);
                    due("all alike, ASKED " + asked, x.of(3, 9), alike[asked]);
                }
                x.know(0, 1, false);
                x.know(1, 2, false);
                x.know(4, 5, false);
                // 6 KNOWS 6; 0, 2, 4, 5 one fewer; 1 two fewer
                int[] want = {0, 64, 65, 69, 85, 117, 119, 119};
                for (int asked = 1; asked < want.length; asked++) {
                    x.begin(3, kind == EARLY ? asked - 1 : asked);
                    due("KIND " + kind + ", ASKED " + asked, x.of(3, 9), want[asked]);
                }
            }
        });
        Edges.test("SAVED: the greatest numbers.", () -> {
            OneFewer x = Edges.friends(0, 0, 0, SAVED, 0, 0, 0);
            int[] want = {0, 64, 96, 112, 116, 118, 119, 119};
            for (int number = 0; number < want.length; number++) {
                x.begin(3, number);
                due("NUMBER " + number, x.of(3, 9), want[number]);
            }
        });
    }

    private static void byRow(int[] row, int... want) {
        OneFewer x = Edges.friends(0, 0, 0, TOLD, 0, 0, 0);
        for (int other : row) {
            x.row(3, other);
        }
        for (int number = 0; number < want.length; number++) {
            x.begin(3, number);
            due("by a ROW of " + row.length + ", NUMBER " + number, x.of(3, 9), want[number]);
        }
    }

    private static void rows() {
        Edges.test("TOLD: first those in its ROW (a row of numbers told by hand, 7 at most; none at first), in that order, then as SAVED.", () -> {
            byRow(new int[] {}, 0, 64, 96, 112, 116, 118, 119, 119);
            byRow(new int[] {1}, 0, 2, 66, 98);
            byRow(new int[] {2, 0}, 0, 4, 5, 69, 101);
            byRow(new int[] {0, 1, 2, 4, 5, 6}, 0, 1, 3, 7, 23, 55, 119, 119);
            byRow(new int[] {3, 1, 1, 1, 0}, 0, 2, 3, 67);
            byRow(new int[] {3, 3, 3, 3, 3, 3, 1}, 0, 2, 66);
            OneFewer x = Edges.friends(TOLD, 0, 0, 0);
            due("none at first", x.of(0, 11), 0);
            for (int i = 1; i <= 7; i++) {
                due("row(0, 1)", x.row(0, 1), i);
            }
            due("the eighth", x.row(0, 2), FULL);
            due("7 at most", x.of(0, 11), 7);
            x.begin(0, 1);
            due("who is in the ROW", x.of(0, 9), 2);
            x.know(0, 1, false);
            due("who is in the ROW and not in MAY", x.of(0, 9), 8);
        });
    }

    // ---- days

    private static void days() {
        Edges.test("A DAY goes: all who have HEARD it and not TOLD it yet choose, by how all is ahead of it, and tell it at once; "
            + "they have TOLD it then", () -> {
            OneFewer nobody = new OneFewer();
            due("of nobody at all", nobody.day(), 0);
            OneFewer x = Edges.friends(0, 0, 0, 0, 0, 0, 0);
            due("nobody has HEARD it", x.day(), 0);
            x.begin(0, 2);
            due("day()", x.day(), 2);
            due("0 has TOLD it", x.of(0, 4), 1);
            due("1 has not", x.of(1, 4), 0);
            // both choose 3, who has not HEARD it ahead of the DAY
            due("of(1, 9)", x.of(1, 9), 8);
            due("of(2, 9)", x.of(2, 9), 8);
            due("one hears it, by two", x.day(), 1);
            due("told(4)", x.told(4), 15);
            due("3 with 0 tells nobody", x.day(), 0);
            due("all have TOLD it", x.day(), 0);
            due("told(4)", x.told(4), 15);
        });
        Edges.test("FINES become FINE more for each head that was missing (ASKED less how many it chose).", () -> {
            for (int number = 0; number <= 9; number++) {
                OneFewer x = Edges.friends(0, 0, 0, 0);
                Edges.town(x, "fine 5 p=0;fine 99 p>0&n>8");
                x.begin(0, number);
                x.day();
                due("of 3 by NUMBER " + number, x.told(1), 5 * Math.max(0, number - 3));
            }
            OneFewer alone = Edges.strangers(EARLY);
            Edges.town(alone, times(7, "fine 99 p=0;") + "fine 99 n=9");
            alone.begin(0, 9);
            alone.day();
            due("ten heads at 8 times 99", alone.told(1), 7920);
            alone.day();
            due("once", alone.told(1), 7920);
            OneFewer two = Edges.friends(0, 0, 0);
            Edges.town(two, "fewer 0;fine 1 p=1;fine 10 p=2");
            two.begin(0, 4);
            two.day();
            two.day();
            due("two tellers lack 4 each", two.told(1), 44);
        });
        Edges.test("(a DEAF one not, if DAY is a multiple of v and 2, together; who told it has told one, though)", () -> {
            for (int v = 0; v <= 9; v++) {
                OneFewer x = new OneFewer();
                x.person(HEARER, 0);
                x.person(DEAF, v);
                x.know(0, 1, true);
                Edges.town(x, "fine 1 p<9");
                int next = 0;
                for (int day = 0; day < 25; day++) {
                    boolean isDeaf = day == next;
                    next += isDeaf ? v + 2 : 0;
                    x.begin(0, 1);
                    due("day() on DAY " + day + " with v " + v, x.day(), isDeaf ? 0 : 1);
                    due("told(1)", x.told(1), 0);
                    due("of(1, 2)", x.of(1, 2), isDeaf ? 0 : 1);
                    due("of(0, 4)", x.of(0, 4), 1);
                }
            }
            for (int kind = 0; kind < 7; kind++) {
                OneFewer x = Edges.friends(HEARER, kind);
                x.begin(0, 1);
                due("on DAY 0, KIND " + kind, x.day(), kind == DEAF ? 0 : 1);
            }
            for (int person = 0; person < 7; person++) {
                int[] kinds = new int[7];
                kinds[person] = DEAF;
                OneFewer x = Edges.friends(kinds);
                x.begin(person == 3 ? 4 : 3, 6);
                due("all but the DEAF one on DAY 0", x.day(), 5);
                due("the DEAF one is " + person, x.told(4), 127 - (1 << person));
            }
            OneFewer x = Edges.friends(HEARER, DEAF);
            due("a DEAF one begins it on DAY 0", x.begin(1, 1), 1);
            due("and tells it", x.day(), 1);
        });
    }

    private static void handed() {
        Edges.test("has HEARD it on this DAY", () -> {
            OneFewer x = Edges.chain(3);
            x.day();
            x.begin(0, 2);
            due("who begins", x.of(0, 5), 1);
            x.day();
            due("the next", x.of(1, 5), 1);
            x.day();
            due("the one behind", x.of(2, 5), 2);
            due("who begins, still", x.of(0, 5), 1);
        });
        Edges.test("NUMBER of it: that of who told it, less fewer (0 at least)", () -> {
            int[][] numbers = {{1, 1, 0}, {1, 0, 1}, {1, 2, 0}, {1, 99, 0}, {9, 0, 9}, {9, 1, 8}, {9, 8, 1}, {9, 9, 0}, {9, 10, 0},
                {9, 99, 0}, {3, 2, 1}, {3, 3, 0}, {3, 4, 0}};
            for (int[] row : numbers) {
                OneFewer x = Edges.chain(2);
                Edges.town(x, "fewer " + row[1]);
                x.begin(0, row[0]);
                x.day();
                due("NUMBER " + row[0] + " less fewer " + row[1], x.of(1, 3), row[2]);
                due("NUMBER of who told it", x.of(0, 3), row[0]);
            }
            OneFewer early = Edges.friends(EARLY, HEARER);
            early.begin(0, 0);
            early.day();
            due("EARLY's 0, who is ASKED 1", early.of(1, 3), 0);
        });
        Edges.test("by several: by law 0 the least of these, by law 1 the most.", () -> {
            for (int law = 0; law < 2; law++) {
                OneFewer x = Edges.friends(0, 0, 0, 0);
                Edges.town(x, "law " + law);
                x.begin(0, 2);
                x.day();
                due("told by 1 and 2", x.day(), 1);
                due("NUMBER by two alike", x.of(3, 3), 0);
                due("HEARD once", x.of(3, 5), 1);
            }
        });
        Edges.test("Then DAY is 1 more.", () -> {
            OneFewer x = Edges.chain(2);
            for (int day = 0; day < 20; day++) {
                due("told(0)", x.told(0), day);
                x.day();
            }
        });
        Edges.test("A WORD BEGINS with one of the PEOPLE and a NUMBER: nobody else has HEARD it, nobody TOLD it; "
            + "that one HEARD it the DAY it is; FINES are 0.", () -> {
            OneFewer x = Edges.friends(0, 0, 0, 0, 0, 0, 0);
            Edges.town(x, "fine 1 p<9");
            x.begin(0, 9);
            x.day();
            due("FINES", x.told(1), 3);
            due("all HEARD it", x.told(4), 127);
            due("begin(6, 0)", x.begin(6, 0), 1);
            due("told(4)", x.told(4), 64);
            due("FINES", x.told(1), 0);
            due("DAY stays", x.told(0), 1);
            due("the DAY it is", x.of(6, 5), 1);
            for (int one = 0; one < 7; one++) {
                due("of(" + one + ", 4)", x.of(one, 4), 0);
                due("of(" + one + ", 3)", x.of(one, 3), one == 6 ? 0 : NEVER);
            }
            x.day();
            due("of(6, 4)", x.of(6, 4), 1);
            due("the same one again", x.begin(6, 3), 1);
            due("of(6, 4)", x.of(6, 4), 0);
            due("of(6, 5)", x.of(6, 5), 2);
            due("it tells anew", x.day(), 3);
        });
    }

    public static void main(String[] args) {
        people();
        tape();
        conditions();
        facts();
        open();
        manyTowns();
        choosing();
        rows();
        days();
        handed();
        Edges.end();
    }
}
