/** Each promise by hand: ordinary inputs, the edges that the document names, wrong inputs. */
public final class PromiseTest {
    private static final int NONE = OneFewer.NONE, BAD = OneFewer.BAD, STATE = OneFewer.STATE, FULL = OneFewer.FULL;
    private static final long NO = OneFewer.NO;
    private static final int HEARER = 0, BOUND = 1, KEEPER = 2, SAVED = 3, EARLY = 4, DEAF = 5, TOLD = 6;
    private static final int NEVER = -5;
    private static int wrong = 0;
    private static int promise = 0;

    private static void due(String call, long got, long want) {
        if (got != want) {
            wrong++;
            System.out.println("promise " + promise + ": " + call + " answered " + got + ", due is " + want);
        }
    }

    private static int town(OneFewer x, String text) {
        for (int i = 0; i < text.length(); i++) {
            x.feed(text.charAt(i));
        }
        return x.town();
    }

    /** PEOPLE of these KINDS, all v 0, of whom all KNOW each other. */
    private static OneFewer friends(int... kinds) {
        OneFewer x = new OneFewer();
        for (int i = 0; i < kinds.length; i++) {
            x.person(kinds[i], 0);
            for (int j = 0; j < i; j++) {
                x.know(i, j, true);
            }
        }
        return x;
    }

    /** HEARERS who KNOW only the one ahead and the one behind. */
    private static OneFewer chain(int size) {
        OneFewer x = new OneFewer();
        for (int i = 0; i < size; i++) {
            x.person(HEARER, 0);
            x.know(i, i - 1, true);
        }
        return x;
    }

    private static void aNewObject() {
        promise = 1;
        OneFewer x = new OneFewer();
        for (int what = 0; what < 6; what++) {
            due("count(" + what + ")", x.count(what), 0);
        }
        due("told(0)", x.told(0), 0);
        due("told(1)", x.told(1), 0);
        due("told(2)", x.told(2), 1);
        due("told(3)", x.told(3), 0);
        due("told(4)", x.told(4), 0);
        due("of(0, 0)", x.of(0, 0), NONE);
        due("undo()", x.undo(), STATE);
        due("NO", OneFewer.NO, -9223372036854775807L - 1);
        due("constants", NONE * 1000 + BAD * 100 + STATE * 10 + FULL, -1234);
    }

    private static void feed() {
        promise = 2;
        OneFewer x = new OneFewer();
        due("feed(-1)", x.feed(-1), BAD);
        due("feed(128)", x.feed(128), BAD);
        due("feed(0)", x.feed(0), 1);
        due("feed(127)", x.feed(127), 2);
        for (int i = 3; i <= 100; i++) {
            due("feed(65)", x.feed(65), i);
        }
        due("feed(65) at 100", x.feed(65), FULL);
        due("feed(128) at 100", x.feed(128), BAD);
        due("count(4)", x.count(4), 100);
    }

    private static void faults() {
        promise = 3;
        OneFewer x = new OneFewer();
        due("nothing", town(x, ""), -10);
        String[] texts = {"x", "s", "shun", "shun ", "shun  p=1", "shun p", "shun p=", "shun p=x", "shun p=1x", "shun p=01",
            "shun p=100", "shun q=1", "shun p!1", "shun p=1&", "shun p=1&&p=1", "shun p=1|", "shun p=1|;", "shun (p=1",
            "shun (p=1;", "shun p=1)", "shun ((p=1)", "shun ()", "shun !", "shun !)", "shun p=1!p=1", "shunt", "fi", "fo",
            "fine", "fine 1", "fine 1p=1", "fine 1  p=1", "fine 100 p=1", "fine 00 p=1", "fine p=1", "fewer", "fewer 10 ",
            "fewer 100", "fewer 01", "fewer p=1", "law 1;", ";law 1", "law 1;;law 1", "law 1 ;law 1", "law 1; law 1", "LAW 1",
            "law 1,law 1", "shun p=1;fine 2", "shun !!!!!!p=1", "shun !(!(!(p=1", "shun ((((((", "shun p==1", "shun p=-1",
            "law  1", "law", "lay 1", "few 1", "fine 1 !!!!!(p=1)", "shun (!p=1&!!!!!p=1)"};
        int[] places = {0, 1, 4, 5, 5, 6, 7, 7, 8, 8, 9, 5, 6, 9, 9, 9, 9, 9, 9, 8, 11, 6, 6, 6, 8, 4, 2, 1, 4, 6, 6, 7, 7, 6, 5,
            5, 8, 8, 7, 6, 6, 0, 6, 5, 6, 0, 5, 15, 10, 10, 10, 7, 7, 4, 3, 2, 3, 12, 15};
        due("as many", texts.length, places.length);
        for (int i = 0; i < texts.length && i < places.length; i++) {
            due(texts[i], town(x, texts[i]), -10 - places[i]);
            due("count(4) behind " + texts[i], x.count(4), 0);
        }
        due("count(1)", x.count(1), 0);
        due("told(2)", x.told(2), 1);
    }

    private static void towns() {
        promise = 3;
        OneFewer x = new OneFewer();
        String ten = "law 1;law 1;law 1;law 1;law 1;law 1;law 1;law 1;law 1;law 1";
        due("11 clauses", town(x, ten + ";law 1"), -10 - 59);
        due("10 clauses", town(x, ten), 0);
        due("told(3)", x.told(3), 1);
        due("count(4)", x.count(4), 0);
        due("5 open", town(x, "shun !!!!!p=1&!!!!!p=1|(!(!(p=1)))"), 1);
        due("told(3) of the newest", x.told(3), 0);
        due("long numbers", town(x, "fine 99 p<99|o>10&k=0;fewer 0;law 98"), 2);
        due("told(2)", x.told(2), 0);
        due("a FAULT", town(x, "fewer 3;law"), -10 - 11);
        due("told(2), the one that held holds", x.told(2), 0);
        due("the last n", town(x, "fewer 4;law 1;fewer 22;law 7;law 2"), 3);
        due("told(2) last", x.told(2), 22);
        due("told(3) last", x.told(3), 0);
        due("the fifth", town(x, "law 3"), 4);
        due("told(2) without", x.told(2), 1);
        due("told(3) odd", x.told(3), 1);
        due("the sixth", town(x, "law 2"), FULL);
        due("THE TAPE stays", x.count(4), 5);
        due("count(1)", x.count(1), 5);
    }

    private static void hundredBytes() {
        promise = 3;
        OneFewer x = new OneFewer();
        String text = "shun p=1";
        for (int i = 0; i < 23; i++) {
            text += i % 2 == 0 ? "|o=2" : "&o=3";
        }
        due("a TOWN of 100 bytes", text.length(), 100);
        due("town()", town(x, text), 0);
        due("ends too early at 100", town(x, text.substring(0, 99) + "="), -10 - 99);
        due("ends too early at the size", town(x, text.substring(0, 99)), -10 - 99);
    }

    /** Who of 7 HEARERS the first one MEETS, by an E of shun, at DAY 0 and NUMBER 3. */
    private static int met(String either) {
        OneFewer x = friends(0, 0, 0, 0, 0, 0, 0);
        due(either, town(x, "shun " + either), 0);
        x.begin(0, 3);
        return x.of(0, 7);
    }

    private static void conditions() {
        promise = 3;
        due("o=1", met("o=1"), 126 - 2);
        due("o<3", met("o<3"), 126 - 6);
        due("o>3", met("o>3"), 14);
        due("!o>3", met("!o>3"), 112);
        due("o=1|o=2&o=3", met("o=1|o=2&o=3"), 126 - 2);
        due("o=2&o=3|o=1", met("o=2&o=3|o=1"), 126 - 2);
        due("(o=1|o=2)&o=2", met("(o=1|o=2)&o=2"), 126 - 4);
        due("!o=1&!o=2", met("!o=1&!o=2"), 6);
        due("!(o=1|o=2)", met("!(o=1|o=2)"), 6);
        due("!!o=1", met("!!o=1"), 126 - 2);
        due("o=1|o=2|o=3&p=0", met("o=1|o=2|o=3&p=0"), 126 - 14);
        due("p=0", met("p=0"), 0);
        due("p<1", met("p<1"), 0);
        due("p=1", met("p=1"), 126);
        due("k=0&n=3&d=0&o=6", met("k=0&n=3&d=0&o=6"), 126 - 64);
        due("n<3", met("n<3"), 126);
        due("n>3", met("n>3"), 126);
        due("d>0", met("d>0"), 126);
        due("k>0", met("k>0"), 126);
        due("o<0", met("o<0"), 126);
        due("o=5|(o=1|(o=2|(o=3&(o=3)&(o=4|(o=3)))))", met("o=5|(o=1|(o=2|(o=3&(o=3)&(o=4|(o=3)))))"), 126 - 46);
        due("two shun", met("o=1;shun o=2"), 126 - 6);
        OneFewer x = friends(0, 0, 0);
        x.begin(0, 1);
        due("a TOWN", town(x, "shun o=1"), 0);
        due("of(0, 7)", x.of(0, 7), 4);
        due("a newer one", town(x, "shun o=2"), 1);
        due("of(0, 7) by the newer", x.of(0, 7), 2);
        due("one without shun", town(x, "law 0"), 2);
        due("of(0, 7) by that", x.of(0, 7), 6);
    }

    private static void person() {
        promise = 4;
        OneFewer x = new OneFewer();
        due("person(-1, 0)", x.person(-1, 0), NONE);
        due("person(7, 10)", x.person(7, 10), NONE);
        due("person(0, -1)", x.person(0, -1), BAD);
        due("person(6, 10)", x.person(6, 10), BAD);
        for (int i = 0; i < 7; i++) {
            due("person(i, 9 - i)", x.person(i, 9 - i), i);
            due("of(i, 0)", x.of(i, 0), i);
            due("of(i, 1)", x.of(i, 1), 9 - i);
        }
        due("person(0, 0)", x.person(0, 0), FULL);
        due("person(0, 10)", x.person(0, 10), BAD);
        due("person(7, 0)", x.person(7, 0), NONE);
        due("count(0)", x.count(0), 7);
    }

    private static void of() {
        promise = 5;
        OneFewer x = friends(HEARER, EARLY, HEARER);
        town(x, "fine 7 p=0;fine 5 n=9;fine 3 o=9");
        due("of(-1, 0)", x.of(-1, 0), NONE);
        due("of(3, 0)", x.of(3, 0), NONE);
        due("of(0, -1)", x.of(0, -1), NONE);
        due("of(0, 12)", x.of(0, 12), NONE);
        long[] unheard = {0, 0, 0, NEVER, 0, NEVER, 6, NEVER, NEVER, NEVER, 15, 0};
        for (int what = 0; what < 12; what++) {
            due("of(0, " + what + ")", x.of(0, what), unheard[what]);
        }
        x.day();
        x.begin(1, 0);
        long[] teller = {4, 0, 1, 0, 0, 1, 5, 5, 1, 1, 3, 0};
        for (int what = 0; what < 12; what++) {
            due("of(1, " + what + ")", x.of(1, what), teller[what]);
        }
        x.day();
        long[] hasTold = {4, 0, 1, 0, 1, 1, 5, 4, 1, 4, 3, 0};
        for (int what = 0; what < 12; what++) {
            due("of(1, " + what + ") behind the DAY", x.of(1, what), hasTold[what]);
        }
        due("of(0, 10), n being 0", x.of(0, 10), 10);
        due("of(0, 5)", x.of(0, 5), 1);
    }

    private static void know() {
        promise = 6;
        OneFewer x = new OneFewer();
        x.person(0, 0);
        x.person(0, 0);
        due("know(0, 2, true)", x.know(0, 2, true), NONE);
        due("know(-1, 0, true)", x.know(-1, 0, true), NONE);
        due("know(5, 5, true)", x.know(5, 5, true), NONE);
        due("know(1, 1, true)", x.know(1, 1, true), BAD);
        due("know(0, 1, false)", x.know(0, 1, false), 0);
        due("know(0, 1, true)", x.know(0, 1, true), 0);
        due("of(0, 6)", x.of(0, 6), 2);
        due("of(1, 6)", x.of(1, 6), 1);
        due("know(1, 0, true)", x.know(1, 0, true), 1);
        due("know(1, 0, false)", x.know(1, 0, false), 1);
        due("of(0, 6)", x.of(0, 6), 0);
        due("of(1, 6)", x.of(1, 6), 0);
    }

    private static void row() {
        promise = 7;
        OneFewer x = friends(TOLD, SAVED, HEARER);
        due("row(3, 0)", x.row(3, 0), NONE);
        due("row(0, 3)", x.row(0, 3), NONE);
        due("row(0, -2)", x.row(0, -2), NONE);
        due("row(1, 3)", x.row(1, 3), NONE);
        due("row(1, 0)", x.row(1, 0), STATE);
        due("row(1, -1)", x.row(1, -1), STATE);
        due("row(-1, -1)", x.row(-1, -1), NONE);
        for (int i = 1; i <= 7; i++) {
            due("row(0, 1)", x.row(0, 1), i);
        }
        due("row(0, 2)", x.row(0, 2), FULL);
        due("row(0, 3) full", x.row(0, 3), NONE);
        due("of(0, 11)", x.of(0, 11), 7);
        due("row(0, -1)", x.row(0, -1), 0);
        due("of(0, 11)", x.of(0, 11), 0);
        due("row(0, 2)", x.row(0, 2), 1);
    }

    /** Whom the first one, of a KIND, would choose of 6 others by a NUMBER. */
    private static int chosen(int kind, int v, int number, int... row) {
        OneFewer x = new OneFewer();
        x.person(kind, v);
        for (int i = 1; i < 7; i++) {
            x.person(HEARER, 0);
            x.know(0, i, true);
        }
        x.know(3, 4, true);
        x.know(4, 5, true);
        x.know(2, 5, true);
        for (int other : row) {
            x.row(0, other);
        }
        x.begin(0, number);
        return x.of(0, 9);
    }

    private static void kinds() {
        promise = 5;
        due("HEARER 0", chosen(HEARER, 5, 0), 0);
        due("HEARER 2", chosen(HEARER, 5, 2), 6);
        due("HEARER 9", chosen(HEARER, 5, 9), 126);
        due("BOUND 1", chosen(BOUND, 5, 1), 16);
        due("BOUND 2", chosen(BOUND, 5, 2), 48);
        due("BOUND 3", chosen(BOUND, 5, 3), 48 + 4);
        due("BOUND 5", chosen(BOUND, 5, 5), 62);
        due("KEEPER 2 by v 5", chosen(KEEPER, 5, 2), 0);
        due("KEEPER 3 by v 5", chosen(KEEPER, 5, 3), 14);
        due("KEEPER 1 by v 3", chosen(KEEPER, 3, 1), 2);
        due("KEEPER 1 by v 4", chosen(KEEPER, 4, 1), 0);
        due("SAVED 2", chosen(SAVED, 5, 2), 96);
        due("EARLY 0", chosen(EARLY, 5, 0), 16);
        due("EARLY 2", chosen(EARLY, 5, 2), 48 + 4);
        due("DEAF 2 by v 2", chosen(DEAF, 2, 2), 0);
        due("DEAF 2 by v 1", chosen(DEAF, 1, 2), 6);
        due("TOLD 2 without a ROW", chosen(TOLD, 5, 2), 96);
        due("TOLD 2 by its ROW", chosen(TOLD, 5, 2, 3, 1, 6), 10);
        due("TOLD 3 with the same twice", chosen(TOLD, 5, 3, 1, 1, 0, 2), 64 + 6);
        due("TOLD 1", chosen(TOLD, 5, 1, 0, 2, 1), 4);
    }

    private static void told() {
        promise = 8;
        OneFewer x = friends(0, 0);
        due("told(-1)", x.told(-1), NONE);
        due("told(5)", x.told(5), NONE);
        town(x, "fewer 2;law 9;fine 4 d=1");
        x.day();
        x.begin(1, 3);
        x.day();
        due("told(0)", x.told(0), 2);
        due("told(1), 2 missing on DAY 1", x.told(1), 8);
        due("told(2)", x.told(2), 2);
        due("told(3)", x.told(3), 1);
        due("told(4)", x.told(4), 3);
        x.person(0, 0);
        due("told(4) with another one", x.told(4), 3);
    }

    private static void begin() {
        promise = 9;
        OneFewer x = friends(0, 0, 0);
        town(x, "fine 1 n>0");
        due("begin(3, 0)", x.begin(3, 0), NONE);
        due("begin(-1, 10)", x.begin(-1, 10), NONE);
        due("begin(0, 10)", x.begin(0, 10), BAD);
        due("begin(0, -1)", x.begin(0, -1), BAD);
        due("told(4)", x.told(4), 0);
        due("begin(0, 9)", x.begin(0, 9), 1);
        x.day();
        due("told(1)", x.told(1), 7);
        due("told(4)", x.told(4), 7);
        due("begin(1, 1)", x.begin(1, 1), 1);
        due("told(1) anew", x.told(1), 0);
        due("told(4) anew", x.told(4), 2);
        due("told(0) goes on", x.told(0), 1);
        due("of(1, 4)", x.of(1, 4), 0);
        due("of(0, 4)", x.of(0, 4), 0);
        due("of(1, 5)", x.of(1, 5), 1);
        due("of(1, 3)", x.of(1, 3), 1);
        due("of(0, 3)", x.of(0, 3), NEVER);
        OneFewer deaf = friends(DEAF);
        due("begin(0, 2) with a DEAF one", deaf.begin(0, 2), 1);
        due("told(4)", deaf.told(4), 1);
    }

    private static void day() {
        promise = 10;
        OneFewer x = chain(4);
        due("day() with nobody", x.day(), 0);
        due("told(0)", x.told(0), 1);
        x.begin(1, 2);
        due("day()", x.day(), 2);
        due("of(0, 3)", x.of(0, 3), 1);
        due("of(2, 3)", x.of(2, 3), 1);
        due("of(2, 5)", x.of(2, 5), 1);
        due("day()", x.day(), 1);
        due("of(3, 3)", x.of(3, 3), 0);
        due("day()", x.day(), 0);
        due("day()", x.day(), 0);
        due("told(0)", x.told(0), 5);
        for (int i = 5; i < 999; i++) {
            due("day()", x.day(), 0);
        }
        due("told(0)", x.told(0), 999);
        due("day(), DAY being 999", x.day(), STATE);
        due("told(0)", x.told(0), 999);
    }

    /** Who is told by two hears it once; who tells on one DAY has the same NUMBER, so law makes no odds. */
    private static void byTwo() {
        promise = 10;
        for (int law = 0; law < 2; law++) {
            OneFewer x = new OneFewer();
            for (int i = 0; i < 4; i++) {
                x.person(i == 1 ? EARLY : HEARER, 0);
            }
            x.know(0, 1, true);
            x.know(0, 2, true);
            x.know(1, 3, true);
            x.know(2, 3, true);
            town(x, "fewer 2;law " + law + ";fine 1 p>0");
            x.begin(0, 5);
            due("day()", x.day(), 2);
            due("day() by two", x.day(), 1);
            due("of(3, 3)", x.of(3, 3), 1);
            due("of(3, 5)", x.of(3, 5), 1);
            // 1 is asked 4, 2 is asked 3, and each has told one
            due("told(1)", x.told(1), 3 + 2);
        }
    }

    private static void deafness() {
        promise = 10;
        OneFewer x = new OneFewer();
        x.person(HEARER, 0);
        x.person(DEAF, 1);
        x.know(0, 1, true);
        town(x, "fine 9 n<9");
        x.begin(0, 1);
        due("day(), DAY 0", x.day(), 0);
        due("told(1), who told it has told one", x.told(1), 0);
        due("of(0, 4)", x.of(0, 4), 1);
        x.begin(0, 2);
        due("day(), DAY 1", x.day(), 1);
        due("told(1)", x.told(1), 9);
        x.begin(0, 1);
        due("day(), DAY 2", x.day(), 1);
        x.begin(0, 1);
        due("day(), DAY 3", x.day(), 0);
        OneFewer two = friends(DEAF, DEAF, HEARER);
        two.begin(2, 2);
        due("two DEAF ones", two.day(), 0);
    }

    /** As many PEOPLE as there can be, as many DAYS as it can take, and all that is asked of them. */
    private static void seven() {
        OneFewer x = chain(7);
        town(x, "fine 1 p<7");
        x.begin(0, 9);
        promise = 13;
        due("end(0)", x.end(0), 7);
        due("end(1)", x.end(1), 7);
        due("end(2)", x.end(2), 8 + 7 + 6 + 5 + 4 + 3 + 3);
        due("end(3)", x.end(3), 0);
        promise = 14;
        due("best(9, 0)", x.best(9, 0), 0);
        due("best(9, 2)", x.best(9, 2), 36);
        promise = 16;
        due("reach(0, 6)", x.reach(0, 6), 2);
        promise = 18;
        x.see(127, 6);
        // 0 and 6 by 6; 1 and 5 by 5 and more; 2 and 4 by 4 and more; 3 by 3 and more
        due("began(0)", x.began(0), 2 * (1 + 2 + 3) + 4);
        x.see(63, 6);
        due("began(0), not both", x.began(0), 0);
        promise = 19;
        due("stops(6)", x.stops(6), 0);
        promise = 20;
        due("odds(6, 9, 0)", x.odds(6, 9, 0), 1);
        due("odds(6, 9, 1)", x.odds(6, 9, 1), 1);
        due("odds(6, 3, 0)", x.odds(6, 3, 0), 1);
        due("odds(6, 3, 1)", x.odds(6, 3, 1), 2);
        promise = 21;
        due("mean(0, 0)", x.mean(0, 0), 0);
        promise = 10;
        due("day()", x.day(), 1);
    }

    private static void fines() {
        promise = 10;
        OneFewer x = friends(HEARER, KEEPER, EARLY);
        town(x, "fine 10 p=0;fine 3 k=4;fine 50 d=1;fewer 0");
        x.begin(0, 4);
        x.day();
        due("told(1), 2 missing", x.told(1), 20);
        x.day();
        // the KEEPER lacks 4 heads by 50, the EARLY one 5 by 53
        due("told(1)", x.told(1), 20 + 200 + 265);
        due("of(2, 3), fewer being 0", x.of(2, 3), 4);
    }

    private static void sum() {
        promise = 11;
        OneFewer x = new OneFewer();
        due("sum(-1)", x.sum(-1), NO);
        due("sum(13)", x.sum(13), NO);
        long[] due = {0, 1, 4, 15, 64, 325, 1956, 13699, 109600, 986409, 9864100, 108505111, 1302061344};
        for (int k = 0; k <= 12; k++) {
            due("sum(" + k + ")", x.sum(k), due[k]);
        }
        town(x, "fewer 2");
        due("sum(0), fewer 2", x.sum(0), 0);
        due("sum(3), fewer 2", x.sum(3), 6);
        due("sum(4), fewer 2", x.sum(4), 12);
        due("sum(5), fewer 2", x.sum(5), 35);
        town(x, "fewer 0");
        due("sum(0), fewer 0", x.sum(0), 0);
        due("sum(12), fewer 0", x.sum(12), 12);
        town(x, "fewer 12");
        due("sum(12), fewer 12", x.sum(12), 12);
        town(x, "fewer 99");
        due("sum(7), fewer 99", x.sum(7), 7);
    }

    private static void enough() {
        promise = 12;
        OneFewer x = new OneFewer();
        due("enough(-1)", x.enough(-1), BAD);
        due("enough(1000000000)", x.enough(1000000000), BAD);
        due("enough(0)", x.enough(0), 0);
        due("enough(1)", x.enough(1), 1);
        due("enough(2)", x.enough(2), 2);
        due("enough(4)", x.enough(4), 2);
        due("enough(5)", x.enough(5), 3);
        due("enough(999999999)", x.enough(999999999), 12);
        town(x, "fewer 0");
        due("enough(12), fewer 0", x.enough(12), 12);
        due("enough(13), fewer 0", x.enough(13), NEVER);
    }

    private static void end() {
        promise = 13;
        OneFewer x = chain(5);
        town(x, "fine 2 n>0");
        due("end(-1)", x.end(-1), NONE);
        due("end(4)", x.end(4), NONE);
        due("end(0) with no word", x.end(0), 0);
        due("end(3) with no word", x.end(3), 31);
        x.begin(0, 3);
        due("end(0)", x.end(0), 4);
        due("end(1)", x.end(1), 4);
        // 0 lacks 2 heads, 1 (with 2) lacks 1, 2 (with 1) none
        due("end(2)", x.end(2), 6);
        due("end(3)", x.end(3), 16);
        due("nothing changes", x.told(0) * 100 + x.told(4), 1);
        x.day();
        due("end(0) behind a DAY", x.end(0), 3);
        due("end(2) behind a DAY", x.end(2), 6);
    }

    private static void best() {
        promise = 14;
        OneFewer x = new OneFewer();
        due("best(10, 3)", x.best(10, 3), NONE);
        due("best(10, -1)", x.best(10, -1), NONE);
        due("best(10, 0)", x.best(10, 0), BAD);
        due("best(-1, 0)", x.best(-1, 0), BAD);
        due("best(0, 0)", x.best(0, 0), STATE);
        x = chain(5);
        town(x, "fine 1 p=0|p=2");
        // with 2: 0 tells 1, which tells 2: 3; the middle one reaches all
        due("best(2, 0)", x.best(2, 0), 2);
        due("best(2, 1)", x.best(2, 1), 5);
        due("best(2, 2)", x.best(2, 2), 0);
        due("best(0, 0)", x.best(0, 0), 0);
        due("best(0, 1)", x.best(0, 1), 1);
        x = friends(0, 0, 0);
        // whoever begins lacks a head; 2 lacks two more on the next DAY, at 2 each
        town(x, "fine 1 d=0;fine 2 p=2&d=1");
        due("FINES decide", x.best(3, 0), 2);
        due("best(3, 1)", x.best(3, 1), 3);
        due("best(3, 2)", x.best(3, 2), 1);
        due("nothing changes", x.told(4), 0);
    }

    private static void choice() {
        promise = 15;
        OneFewer x = new OneFewer();
        for (int i = 0; i < 5; i++) {
            x.person(HEARER, 0);
        }
        x.know(0, 1, true);
        x.know(0, 2, true);
        x.know(0, 3, true);
        x.know(2, 4, true);
        due("choice(5, 0)", x.choice(5, 0), NONE);
        due("choice(0, 2)", x.choice(0, 2), NONE);
        due("choice(0, -1)", x.choice(0, -1), NONE);
        due("choice(0, 0) not HEARD", x.choice(0, 0), STATE);
        x.begin(0, 2);
        due("of(0, 9)", x.of(0, 9), 6);
        due("choice(0, 0)", x.choice(0, 0), 6);
        due("choice(0, 1)", x.choice(0, 1), 4);
        x.know(3, 4, true);
        x.know(2, 4, false);
        due("choice(0, 0) elsewhere", x.choice(0, 0), 10);
        due("choice(0, 1) elsewhere", x.choice(0, 1), 4);
        x.day();
        due("choice(0, 0) TOLD", x.choice(0, 0), STATE);
        due("choice(1, 0)", x.choice(1, 0), 0);
        x.begin(4, 9);
        due("all if there are fewer", x.choice(4, 0), 8);
        x.begin(4, 0);
        due("ASKED none", x.choice(4, 0), 0);
        due("how many", x.choice(4, 1), 1);
    }

    private static void reach() {
        promise = 16;
        OneFewer x = new OneFewer();
        for (int i = 0; i < 6; i++) {
            x.person(HEARER, 0);
        }
        x.know(0, 1, true);
        x.know(0, 2, true);
        x.know(0, 3, true);
        x.know(3, 4, true);
        due("reach(6, 0)", x.reach(6, 0), NONE);
        due("reach(0, 6)", x.reach(0, 6), NONE);
        due("reach(0, -1)", x.reach(0, -1), NONE);
        due("reach(0, 1) not HEARD", x.reach(0, 1), STATE);
        x.begin(0, 2);
        due("reach(0, 4)", x.reach(0, 4), 10);
        due("reach(0, 2)", x.reach(0, 2), 6);
        due("reach(0, 1)", x.reach(0, 1), 6);
        due("reach(0, 0), who has HEARD it", x.reach(0, 0), 6);
        due("reach(0, 5)", x.reach(0, 5), NEVER);
        x.begin(0, 1);
        due("reach(0, 4) with 1", x.reach(0, 4), NEVER);
        due("reach(0, 3) with 1", x.reach(0, 3), 8);
        x.day();
        due("reach(0, 1) TOLD", x.reach(0, 1), STATE);
        due("reach(1, 0), asked none", x.reach(1, 0), 0);
    }

    private static void seen() {
        promise = 17;
        OneFewer x = chain(3);
        due("see(8, 0)", x.see(8, 0), BAD);
        due("see(-2, 0)", x.see(-2, 0), BAD);
        due("see(7, 7)", x.see(7, 7), BAD);
        due("see(7, -1)", x.see(7, -1), BAD);
        due("see(0, 0)", x.see(0, 0), 1);
        due("see(7, 6)", x.see(7, 6), 2);
        due("see(-1, 99)", x.see(-1, 99), 0);
        due("count(2)", x.count(2), 0);
        for (int i = 1; i <= 6; i++) {
            due("see(1, 0)", x.see(1, 0), i);
        }
        due("see(1, 0)", x.see(1, 0), FULL);
        due("see(8, 0) full", x.see(8, 0), BAD);
        due("count(2)", x.count(2), 6);
        due("see(0, 0) with nobody", new OneFewer().see(0, 0), 1);
    }

    private static void began() {
        promise = 18;
        OneFewer x = chain(4);
        due("began(-1)", x.began(-1), NONE);
        due("began(2)", x.began(2), NONE);
        due("began(0)", x.began(0), 28);
        due("began(1)", x.began(1), 0);
        x.see(7, 2);
        // 0 by 2 and more; 1 by 1 tells 0 alone, by 2 and more all hear it
        due("began(0)", x.began(0), 5);
        due("began(1)", x.began(1), 2);
        x.see(-1, 0);
        x.see(4, 0);
        x.see(14, 1);
        due("began(0) of 2", x.began(0), 5);
        due("began(1) of 2", x.began(1), 22);
        x.see(15, 1);
        due("began(0) of none", x.began(0), 0);
        due("began(1) of none", x.began(1), NEVER);
        x.see(-1, 0);
        x.see(0, 3);
        due("nobody can't be", x.began(0), 0);
        OneFewer deaf = friends(HEARER, DEAF);
        deaf.see(3, 1);
        due("DAY 0, only the DEAF one can", deaf.began(1), 11);
        deaf.day();
        due("DAY 1", deaf.began(1), 1);
    }

    private static void stops() {
        promise = 19;
        OneFewer x = chain(5);
        due("stops(5)", x.stops(5), -1001);
        due("stops(-1)", x.stops(-1), -1001);
        due("stops(0) with no word", x.stops(0), 0);
        x.begin(0, 5);
        due("stops(0)", x.stops(0), -1002);
        due("stops(1)", x.stops(1), 3);
        due("stops(3)", x.stops(3), 1);
        due("stops(4)", x.stops(4), 0);
        due("nothing changes", x.end(1), 5);
    }

    /** By a deaf 1 it comes to 3 a DAY later, when 3 may tell 5. */
    private static void stopsLessThanNone() {
        promise = 19;
        OneFewer x = new OneFewer();
        for (int i = 0; i < 6; i++) {
            x.person(HEARER, 0);
        }
        x.know(0, 1, true);
        x.know(0, 2, true);
        x.know(1, 3, true);
        x.know(2, 4, true);
        x.know(4, 3, true);
        x.know(3, 5, true);
        town(x, "shun p=3&d=2");
        x.begin(0, 5);
        due("end(3)", x.end(3), 32);
        due("stops(1)", x.stops(1), -1);
        due("stops(2), 4 hears it from nobody else", x.stops(2), 1);
        due("stops(5)", x.stops(5), 0);
    }

    private static void odds() {
        promise = 20;
        OneFewer x = chain(5);
        due("odds(5, 0, 0)", x.odds(5, 0, 0), NO);
        due("odds(-1, 0, 0)", x.odds(-1, 0, 0), NO);
        due("odds(0, 10, 0)", x.odds(0, 10, 0), NO);
        due("odds(0, -1, 0)", x.odds(0, -1, 0), NO);
        due("odds(0, 0, 2)", x.odds(0, 0, 2), NO);
        due("odds(0, 0, -1)", x.odds(0, 0, -1), NO);
        due("odds alone, above", chain(1).odds(0, 1, 0), NO);
        due("odds of two", chain(2).odds(0, 1, 0), 1);
        due("odds(1, 1, 1), by 0 and 2", x.odds(1, 1, 1), 2);
        due("odds(0, 1, 0)", x.odds(0, 1, 0), 1);
        due("odds(0, 1, 1)", x.odds(0, 1, 1), 4);
        due("odds(0, 2, 0), by 1 and 2", x.odds(0, 2, 0), 1);
        due("odds(0, 2, 1)", x.odds(0, 2, 1), 2);
        due("odds(0, 0, 0)", x.odds(0, 0, 0), 0);
        due("odds(0, 0, 1)", x.odds(0, 0, 1), 1);
        due("odds(0, 9, 0)", x.odds(0, 9, 0), 1);
        due("odds(0, 9, 1)", x.odds(0, 9, 1), 1);
        due("nothing changes", x.told(4), 0);
    }

    private static void mean() {
        promise = 21;
        OneFewer x = chain(3);
        due("mean(10, 0)", x.mean(10, 0), NO);
        due("mean(-1, 0)", x.mean(-1, 0), NO);
        due("mean(0, 2)", x.mean(0, 2), NO);
        due("mean(0, -1)", x.mean(0, -1), NO);
        due("mean of nobody", new OneFewer().mean(0, 0), NO);
        OneFewer alone = chain(1);
        town(alone, "fine 2 p=0");
        due("mean of one", alone.mean(3, 0), 6);
        due("mean(1, 0)", x.mean(1, 0), 0);
        due("mean(1, 1)", x.mean(1, 1), 1);
        town(x, "fine 2 n=2");
        // 0 and 2 lack one head, 1 none
        due("mean(2, 0)", x.mean(2, 0), 4);
        due("mean(2, 1)", x.mean(2, 1), 3);
        town(x, "fine 3 n=2");
        due("mean(2, 0)", x.mean(2, 0), 2);
        due("mean(2, 1)", x.mean(2, 1), 1);
        x.begin(0, 9);
        x.day();
        due("FINES of now do not count", x.mean(2, 0), 2);
    }

    private static void book() {
        promise = 22;
        OneFewer x = chain(2);
        due("book(2, 0)", x.book(2, 0), NONE);
        due("book(-2, 1000)", x.book(-2, 1000), NONE);
        due("book(0, 1000)", x.book(0, 1000), BAD);
        due("book(0, -1)", x.book(0, -1), BAD);
        due("book(0, 999)", x.book(0, 999), 1);
        due("book(-1, -7)", x.book(-1, -7), 0);
        for (int i = 1; i <= 8; i++) {
            due("book(1, 0)", x.book(1, 0), i);
        }
        due("book(1, 0)", x.book(1, 0), FULL);
        due("book(1, 1000) full", x.book(1, 1000), BAD);
        due("count(3)", x.count(3), 8);
    }

    private static void looked() {
        promise = 23;
        OneFewer x = chain(3);
        due("looked() at none", x.looked(), NEVER);
        x.begin(0, 5);
        x.book(0, 0);
        x.book(1, 0);
        x.book(2, 1);
        due("looked()", x.looked(), 1);
        x.day();
        due("looked()", x.looked(), 2);
        x.day();
        due("looked()", x.looked(), NEVER);
        x.book(1, 1);
        due("looked() at another DAY", x.looked(), 3);
        x.begin(2, 0);
        due("looked() anew", x.looked(), 0);
    }

    private static void act() {
        promise = 24;
        OneFewer x = new OneFewer();
        for (int kind = 0; kind < 7; kind++) {
            x.person(kind, 3);
        }
        int[][] want = {{5, 2, 4}, {16, 13, 26}, {7, -4, -8}, {8, 5, 13}, {19, 16, 36}, {15, -12, -24}, {11, 11, 17}};
        for (int one = 0; one < 7; one++) {
            for (int act = 0; act < 3; act++) {
                due("act(" + one + ", " + act + ", 5)", x.act(one, act, 5), want[one][act]);
            }
        }
        due("wrapping", x.act(1, 0, Integer.MAX_VALUE), Integer.MAX_VALUE * 3 + 1);
        due("act(7, 0, 5)", x.act(7, 0, 5), 0);
        due("act(-1, 0, 5)", x.act(-1, 0, 5), 0);
        due("act(0, 3, 5)", x.act(0, 3, 5), 0);
        due("act(0, -1, 5)", x.act(0, -1, 5), 0);
    }

    private static void trace() {
        promise = 25;
        OneFewer x = new OneFewer();
        for (int kind = 0; kind < 7; kind++) {
            x.person(kind, 3);
        }
        due("trace(0) at first", x.trace(0), NONE);
        int[][] bodies = {{3, 2, 1}, {3, 2, 11, 1}, {3, 21, 2, 1}, {31, 3, 2, 1}, {41, 3, 2, 11, 1, 11, 1}, {3, 21, 2, 51, 1},
            {31, 3, 61, 2, 1}};
        for (int one = 0; one < 7; one++) {
            x.act(one, 2, 5);
            for (int i = 0; i < bodies[one].length; i++) {
                due("trace(" + i + ") of " + one, x.trace(i), bodies[one][i]);
            }
            due("trace behind the last", x.trace(bodies[one].length), NONE);
            due("trace(-1)", x.trace(-1), NONE);
            due("count(5)", x.count(5), bodies[one].length);
        }
        x.act(9, 0, 0);
        due("trace(0) behind act(9, 0, 0)", x.trace(0), NONE);
        due("count(5)", x.count(5), 0);
        x.act(0, 0, 0);
        x.act(0, 3, 0);
        due("trace(0) behind act(0, 3, 0)", x.trace(0), NONE);
    }

    private static void as() {
        promise = 26;
        OneFewer x = new OneFewer();
        String[] above = {"0", "01", "02", "03", "014", "025", "036"};
        for (int kind = 0; kind < 7; kind++) {
            x.person(kind, kind + 1);
            for (int k = 0; k < 7; k++) {
                due("as(" + kind + ", " + k + ")", x.as(kind, k), above[kind].contains("" + k) ? kind + 1 : -6);
            }
        }
        due("as(7, 0)", x.as(7, 0), NONE);
        due("as(-1, 0)", x.as(-1, 0), NONE);
        due("as(0, 7)", x.as(0, 7), NONE);
        due("as(0, -1)", x.as(0, -1), NONE);
    }

    private static void image() {
        promise = 27;
        OneFewer x = friends(HEARER, TOLD);
        town(x, "fewer 2;shun o=5");
        x.row(1, 0);
        x.see(1, 0);
        x.book(1, 2);
        x.begin(1, 3);
        x.day();
        x.feed('s');
        due("image()", x.image(), 2);
        promise = 28;
        x.person(DEAF, 1);
        x.know(2, 0, true);
        x.know(0, 1, false);
        town(x, "x");
        town(x, "fewer 3;law 1");
        x.row(1, -1);
        x.see(-1, 0);
        x.book(0, 2);
        x.begin(0, 1);
        x.day();
        x.act(0, 0, 4);
        for (int i = 0; i < 2; i++) {
            due("undo()", x.undo(), 2);
            due("of(1, 11)", x.of(1, 11), 1);
            due("of(1, 6)", x.of(1, 6), 1);
            due("of(1, 3)", x.of(1, 3), 3);
            due("of(1, 4)", x.of(1, 4), 1);
            due("of(1, 5)", x.of(1, 5), 0);
            due("told(0)", x.told(0), 1);
            due("told(2)", x.told(2), 2);
            due("told(3)", x.told(3), 0);
            due("told(4)", x.told(4), 3);
            due("count(1)", x.count(1), 1);
            due("count(2)", x.count(2), 1);
            due("count(3)", x.count(3), 1);
            due("count(4)", x.count(4), 1);
            due("count(5), THE TRACE is none of it", x.count(5), 1);
            due("looked()", x.looked(), 0);
            x.person(KEEPER, 3);
            due("of(2, 6), a new one", x.of(2, 6), 0);
            due("of(2, 2)", x.of(2, 2), 0);
            due("feed", x.feed('h'), 2);
            due("town, a fault behind sh", x.town(), -12);
        }
        due("undo() as THE IMAGE stays", x.undo(), 2);
        x.person(0, 0);
        due("image() anew", x.image(), 3);
        x.person(0, 0);
        due("undo() to that", x.undo(), 3);
        due("undo() without", new OneFewer().undo(), STATE);
        due("image() of nobody", new OneFewer().image(), 0);
    }

    private static void count() {
        promise = 29;
        OneFewer x = friends(0, 0, 0);
        town(x, "law 1");
        town(x, "law 2");
        x.see(1, 0);
        x.book(0, 1);
        x.book(0, 1);
        x.feed(1);
        x.act(0, 1, 1);
        int[] counts = {3, 2, 1, 2, 1, 2};
        for (int what = 0; what < 6; what++) {
            due("count(" + what + ")", x.count(what), counts[what]);
        }
        due("count(6)", x.count(6), NONE);
        due("count(-1)", x.count(-1), NONE);
    }

    /** The calls that README.md shows. */
    private static void readme() {
        promise = 0;
        OneFewer x = new OneFewer();
        due("person(0, 0)", x.person(0, 0), 0);
        due("person(4, 0)", x.person(4, 0), 1);
        due("person(3, 5)", x.person(3, 5), 2);
        due("know(0, 1, true)", x.know(0, 1, true), 0);
        x.know(1, 2, true);
        due("town()", town(x, "fewer 1;shun p=0&o=2;fine 5 k=4"), 0);
        due("begin(0, 2)", x.begin(0, 2), 1);
        due("end(1)", x.end(1), 3);
        due("end(2)", x.end(2), 5);
        due("day()", x.day(), 1);
        due("told(4)", x.told(4), 3);
        due("choice(1, 0)", x.choice(1, 0), 4);
    }

    public static void main(String[] args) {
        readme();
        aNewObject();
        feed();
        faults();
        towns();
        hundredBytes();
        conditions();
        person();
        of();
        kinds();
        know();
        row();
        told();
        begin();
        day();
        byTwo();
        deafness();
        seven();
        fines();
        sum();
        enough();
        end();
        best();
        choice();
        reach();
        seen();
        began();
        stops();
        stopsLessThanNone();
        odds();
        mean();
        book();
        looked();
        act();
        trace();
        as();
        image();
        count();
        System.out.println(wrong == 0 ? "all answers are as due" : wrong + " answers are not as due");
        if (wrong != 0) {
            System.exit(1);
        }
    }
}
