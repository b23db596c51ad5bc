import java.util.function.Supplier;
import java.util.function.ToLongFunction;

/** A test for each promise's own edges: its refusals on each side, which of several is told, and that they change nothing. */
public final class EdgePromisesTest {
    private static final int NONE = Edges.NONE, BAD = Edges.BAD, STATE = Edges.STATE, FULL = Edges.FULL, NEVER = Edges.NEVER;
    private static final long NO = Edges.NO;
    private static final int HEARER = 0, TOLD = 6;
    private static final int MAX = Edges.MAX, MIN = Edges.MIN;
    private static final int[] BELOW = {-1, -2, MIN, MIN + 1};
    private static final boolean[] TESTED = new boolean[30];

    private static void due(String call, long got, long want) {
        Edges.due(call, got, want);
    }

    private static void promise(int number, String words, Runnable calls) {
        TESTED[number] = true;
        Edges.testWithin(Edges.promise(number), words, calls);
    }

    /** A call on an object that has something of everything: refused, and all is as it was. */
    private static void refused(String name, ToLongFunction<OneFewer> call, long want) {
        Edges.keeps(name, Edges::rich, call, want);
    }

    private static void refusedOf(String name, Supplier<OneFewer> make, ToLongFunction<OneFewer> call, long want) {
        Edges.keeps(name, make, call, want);
    }

    /** Numbers that are just beyond, and far beyond, a range from 0 on. */
    private static int[] beyond(int most) {
        return new int[] {-1, -2, MIN, most + 1, most + 2, most + 32, most + 64, most + 256, most + 65536, MAX};
    }

    // ---- objects that are full

    private static OneFewer fullTape() {
        OneFewer x = Edges.chain(2);
        x.begin(0, 3);
        x.image();
        return Edges.feed(x, "shun p=1" + "|p=1".repeat(23));
    }

    private static OneFewer fullTowns() {
        OneFewer x = Edges.chain(2);
        for (int i = 0; i < 5; i++) {
            Edges.town(x, "fewer " + (i + 2));
        }
        return Edges.feed(x, "law ");
    }

    private static OneFewer fullPeople() {
        OneFewer x = Edges.chain(7);
        x.begin(3, 4);
        x.day();
        return x;
    }

    private static OneFewer fullRow() {
        OneFewer x = Edges.friends(TOLD, HEARER, HEARER, HEARER);
        for (int i = 0; i < 6; i++) {
            x.row(0, 2);
        }
        x.row(0, 1);
        return x;
    }

    private static OneFewer fullSeen() {
        OneFewer x = Edges.chain(3);
        for (int i = 0; i < 6; i++) {
            x.see(2, 0);
        }
        return x;
    }

    private static OneFewer fullBook() {
        OneFewer x = Edges.chain(3);
        for (int i = 0; i < 8; i++) {
            x.book(1, 0);
        }
        x.begin(1, 9);
        return x;
    }

    // ---- promises 1 to 8: towns, people

    private static void newObject() {
        promise(1, "`OneFewer()`: Nobody, no TOWN.", () -> {
            OneFewer x = new OneFewer();
            for (int what = 0; what < 6; what++) {
                due("count(" + what + ")", x.count(what), 0);
            }
            int[] told = {0, 0, 1, 0, 0};
            for (int what = 0; what < 5; what++) {
                due("told(" + what + ")", x.told(what), told[what]);
            }
            for (int what = 0; what < 4; what++) {
                due("end(" + what + ")", x.end(what), 0);
            }
            due("of(0, 0)", x.of(0, 0), NONE);
            due("know(0, 1, true)", x.know(0, 1, true), NONE);
            due("row(0, -1)", x.row(0, -1), NONE);
            due("begin(0, 0)", x.begin(0, 0), NONE);
            due("best(0, 0)", x.best(0, 0), STATE);
            due("choice(0, 0)", x.choice(0, 0), NONE);
            due("reach(0, 0)", x.reach(0, 0), NONE);
            due("began(0)", x.began(0), 0);
            due("began(1)", x.began(1), NEVER);
            due("stops(0)", x.stops(0), -1001);
            due("odds(0, 0, 0)", x.odds(0, 0, 0), NO);
            due("mean(0, 0)", x.mean(0, 0), NO);
            due("book(0, 0)", x.book(0, 0), NONE);
            due("looked()", x.looked(), NEVER);
            due("act(0, 0, 0)", x.act(0, 0, 0), 0);
            due("trace(0)", x.trace(0), NONE);
            due("as(0, 0)", x.as(0, 0), NONE);
            due("undo()", x.undo(), STATE);
            due("sum(3)", x.sum(3), 15);
            due("day()", x.day(), 0);
            due("told(0)", x.told(0), 1);
            due("town()", x.town(), -10);
        });
        Edges.test("`NO = Long.MIN_VALUE`", () -> {
            due("NO", OneFewer.NO, -9223372036854775807L - 1);
            due("NONE", OneFewer.NONE, -1);
            due("BAD", OneFewer.BAD, -2);
            due("STATE", OneFewer.STATE, -3);
            due("FULL", OneFewer.FULL, -4);
        });
    }

    private static void feed() {
        promise(2, "A sign (0 .. 127) comes behind THE TAPE's: how many it has. BAD; FULL.", () -> {
            for (int sign : beyond(127)) {
                refused("feed(" + sign + ")", x -> x.feed(sign), BAD);
                refusedOf("feed(" + sign + ") at 100", EdgePromisesTest::fullTape, x -> x.feed(sign), BAD);
            }
            refusedOf("feed(0) at 100", EdgePromisesTest::fullTape, x -> x.feed(0), FULL);
            refusedOf("feed(127) at 100", EdgePromisesTest::fullTape, x -> x.feed(127), FULL);
            OneFewer x = new OneFewer();
            for (int i = 0; i < 100; i++) {
                due("feed", x.feed(i % 2 * 127), i + 1);
                due("count(4)", x.count(4), i + 1);
            }
            due("feed(0)", x.feed(0), FULL);
            due("count(4)", x.count(4), 100);
            due("town(), the sign 0 at first", x.town(), -10);
            due("count(4)", x.count(4), 0);
            due("feed(0)", x.feed(0), 1);
        });
    }

    private static void town() {
        promise(3, "THE TAPE, which is empty then (by a FAULT, too), is a TOWN, and holds: its number; -10 less the FAULT "
            + "(the one that held holds).", () -> {
            OneFewer x = new OneFewer();
            due("of the empty TAPE", x.town(), -10);
            due("a TOWN", Edges.town(x, "fewer 5;law 1"), 0);
            due("THE TAPE", x.count(4), 0);
            due("of the empty TAPE", x.town(), -10);
            due("a FAULT at the end", Edges.town(x, "fewer 7;law "), -22);
            due("THE TAPE", x.count(4), 0);
            due("the one that held", x.told(2), 5);
            due("the one that held", x.told(3), 1);
            due("count(1)", x.count(1), 1);
            due("a FAULT at 100", Edges.town(x, "fewer 11;shun p=1" + "|p=1".repeat(20) + "|p="), -110);
            due("the one that held", x.told(2), 5);
            due("its number", Edges.town(x, "fewer 8"), 1);
            due("it holds", x.told(2), 8);
            due("without law", x.told(3), 0);
        });
        promise(3, "FULL (ahead of all; THE TAPE stays).", () -> {
            refusedOf("town() with a FAULT", EdgePromisesTest::fullTowns, x -> x.town(), FULL);
            refusedOf("town() with a TOWN", () -> Edges.feed(fullTowns(), "1"), x -> x.town(), FULL);
            OneFewer x = fullTowns();
            due("town()", x.town(), FULL);
            due("THE TAPE stays", x.count(4), 4);
            due("feed(49)", x.feed('1'), 5);
            due("town()", x.town(), FULL);
            due("THE TAPE stays", x.count(4), 5);
            OneFewer y = fullTowns();
            due("a fifth", y.count(1), 5);
            due("the newest holds", y.told(2), 6);
        });
    }

    private static void person() {
        promise(4, "One of the PEOPLE: the number. NONE: kind; BAD: v; FULL.", () -> {
            for (int kind : beyond(6)) {
                refused("person(" + kind + ", 0)", x -> x.person(kind, 0), NONE);
                refused("person(" + kind + ", 10)", x -> x.person(kind, 10), NONE);
                refusedOf("person(" + kind + ", 10), full", EdgePromisesTest::fullPeople, x -> x.person(kind, 10), NONE);
            }
            for (int v : beyond(9)) {
                refused("person(0, " + v + ")", x -> x.person(0, v), BAD);
                refusedOf("person(6, " + v + "), full", EdgePromisesTest::fullPeople, x -> x.person(6, v), BAD);
            }
            refusedOf("person(0, 0), full", EdgePromisesTest::fullPeople, x -> x.person(0, 0), FULL);
            refusedOf("person(6, 9), full", EdgePromisesTest::fullPeople, x -> x.person(6, 9), FULL);
            due("the seventh of the rich", Edges.rich().person(6, 9), 6);
        });
    }

    private static void of() {
        promise(5, "2 whether it HEARD it, 3 NUMBER (-5: not HEARD), 4 whether it TOLD it, 5 the DAY it HEARD it (-5), 6 whom it KNOWS (bits), "
            + "7 MAY (bits; -5: not HEARD), 8 ASKED (-5), 9 whom it would choose now (bits; -5), 10 FINE, 11 the size of the ROW. NONE.", () -> {
            for (int person : beyond(5)) {
                refused("of(" + person + ", 0)", x -> x.of(person, 0), NONE);
                refused("of(" + person + ", 12)", x -> x.of(person, 12), NONE);
            }
            for (int what : beyond(11)) {
                refused("of(0, " + what + ")", x -> x.of(0, what), NONE);
                refused("of(5, " + what + ")", x -> x.of(5, what), NONE);
            }
            int[] hasTold = {0, 2, 1, 3, 1, 0, 6, 0, 3, 0, 3, 0};
            int[] yetTo = {6, 4, 1, 2, 0, 0, 57, 56, 2, 40, 0, 2};
            int[] unheard = {4, 6, 0, NEVER, 0, NEVER, 4, NEVER, NEVER, NEVER, 0, 0};
            OneFewer x = Edges.rich();
            for (int what = 0; what < 12; what++) {
                due("of(0, " + what + "), who has TOLD it", x.of(0, what), hasTold[what]);
                due("of(2, " + what + "), who has yet to", x.of(2, what), yetTo[what]);
                due("of(4, " + what + "), who has not HEARD it", x.of(4, what), unheard[what]);
            }
        });
    }

    private static void know() {
        promise(6, "Two KNOW each other, or not: whether they did. NONE; BAD: one is both.", () -> {
            for (int one : beyond(5)) {
                refused("know(" + one + ", 0, true)", x -> x.know(one, 0, true), NONE);
                refused("know(5, " + one + ", true)", x -> x.know(5, one, true), NONE);
                refused("know(" + one + ", itself, true)", x -> x.know(one, one, true), NONE);
                refused("know(" + one + ", 0, false)", x -> x.know(one, 0, false), NONE);
            }
            for (int one = 0; one < 6; one++) {
                int both = one;
                refused("know(" + one + ", itself, true)", x -> x.know(both, both, true), BAD);
                refused("know(" + one + ", itself, false)", x -> x.know(both, both, false), BAD);
            }
            OneFewer x = Edges.strangers(0, 0, 0, 0, 0, 0, 0);
            due("not yet", x.know(0, 6, false), 0);
            due("not yet", x.know(0, 6, true), 0);
            due("they do", x.know(6, 0, true), 1);
            due("of(0, 6)", x.of(0, 6), 64);
            due("of(6, 6)", x.of(6, 6), 1);
            due("they did", x.know(6, 0, false), 1);
            due("no more", x.know(0, 6, false), 0);
            due("of(0, 6)", x.of(0, 6), 0);
        });
    }

    private static void row() {
        promise(7, "One comes to the ROW of a TOLD one: how many it has (other -1: none then, 0). NONE; STATE: another KIND; FULL: 7.", () -> {
            for (int person : beyond(5)) {
                refused("row(" + person + ", 0)", x -> x.row(person, 0), NONE);
                refused("row(" + person + ", -1)", x -> x.row(person, -1), NONE);
            }
            for (int other : beyond(5)) {
                if (other != -1) {
                    refused("row(2, " + other + ")", x -> x.row(2, other), NONE);
                    refused("row(0, " + other + "), another KIND", x -> x.row(0, other), NONE);
                    refusedOf("row(0, " + other + "), full", EdgePromisesTest::fullRow, x -> x.row(0, other), NONE);
                }
            }
            for (int person : new int[] {0, 1, 3, 4, 5}) {
                refused("row(" + person + ", 0), another KIND", x -> x.row(person, 0), STATE);
                refused("row(" + person + ", -1), another KIND", x -> x.row(person, -1), STATE);
            }
            refusedOf("row(0, 3), full", EdgePromisesTest::fullRow, x -> x.row(0, 3), FULL);
            refusedOf("row(0, 0), full", EdgePromisesTest::fullRow, x -> x.row(0, 0), FULL);
            OneFewer x = fullRow();
            due("of(0, 11)", x.of(0, 11), 7);
            due("row(0, -1), full", x.row(0, -1), 0);
            due("of(0, 11)", x.of(0, 11), 0);
            due("row(0, -1), empty", x.row(0, -1), 0);
            due("row(0, 0), itself", x.row(0, 0), 1);
            due("row(0, 0), again", x.row(0, 0), 2);
            x.begin(0, 1);
            due("as SAVED, itself aside", x.of(0, 9), 8);
        });
    }

    private static void told() {
        promise(8, "What 0 DAY, 1 FINES, 2 fewer, 3 law (0, 1), 4 who HEARD it (bits). NONE.", () -> {
            for (int what : beyond(4)) {
                refused("told(" + what + ")", x -> x.told(what), NONE);
            }
            int[] want = {1, 3, 1, 1, 7};
            OneFewer x = Edges.rich();
            for (int what = 0; what < 5; what++) {
                due("told(" + what + ")", x.told(what), want[what]);
            }
        });
    }

    // ---- promises 9 to 13: words

    private static void begin() {
        promise(9, "A WORD BEGINS: 1. NONE; BAD: number.", () -> {
            for (int person : beyond(5)) {
                refused("begin(" + person + ", 0)", x -> x.begin(person, 0), NONE);
                refused("begin(" + person + ", 10)", x -> x.begin(person, 10), NONE);
            }
            for (int number : beyond(9)) {
                refused("begin(0, " + number + ")", x -> x.begin(0, number), BAD);
                refused("begin(5, " + number + ")", x -> x.begin(5, number), BAD);
            }
            OneFewer x = Edges.rich();
            due("begin(0, 0)", x.begin(0, 0), 1);
            due("told(4)", x.told(4), 1);
            due("begin(5, 9)", x.begin(5, 9), 1);
            due("told(4)", x.told(4), 32);
        });
    }

    private static void day() {
        promise(10, "A DAY goes: how many HEARD it on it. STATE: DAY is 999.", () -> {
            OneFewer x = Edges.strangers(0, 0);
            // DAY 999 lies beyond the 512 calls that are promised; the sentence is held to all the same
            for (int day = 0; day < 999; day++) {
                due("day() on DAY " + day, x.day(), 0);
            }
            due("told(0)", x.told(0), 999);
            x.know(0, 1, true);
            x.begin(0, 1);
            due("day() on DAY 999", x.day(), STATE);
            due("told(0)", x.told(0), 999);
            due("told(4)", x.told(4), 1);
            due("of(0, 4)", x.of(0, 4), 0);
            due("END goes on all the same", x.end(1), 2);
            OneFewer seven = Edges.star(7);
            seven.begin(0, 6);
            due("all others on one DAY", seven.day(), 6);
            due("nobody on the next", seven.day(), 0);
        });
    }

    private static void sum() {
        promise(11, "SUM. NO: k.", () -> {
            for (int k : beyond(12)) {
                refused("sum(" + k + ")", x -> x.sum(k), NO);
            }
            due("sum(0)", Edges.rich().sum(0), 0);
            due("sum(12)", Edges.rich().sum(12), 1302061344L);
        });
    }

    private static void enough() {
        promise(12, "ENOUGH; -5. BAD.", () -> {
            for (int m : new int[] {-1, -5, MIN, 1000000000, 1000000001, MAX}) {
                refused("enough(" + m + ")", x -> x.enough(m), BAD);
            }
            due("enough(0)", Edges.rich().enough(0), 0);
            due("enough(999999999)", Edges.rich().enough(999999999), 12);
            OneFewer x = new OneFewer();
            Edges.town(x, "fewer 0");
            due("enough(999999999), fewer 0", x.enough(999999999), NEVER);
            due("enough(1000000000), fewer 0", x.enough(1000000000), BAD);
        });
    }

    private static void end() {
        promise(13, "END: what 0 DAYS, 1 how many HEARD it, 2 FINES, 3 who did not (bits). NONE.", () -> {
            for (int what : beyond(3)) {
                refused("end(" + what + ")", x -> x.end(what), NONE);
            }
            due("end(4) of nobody", new OneFewer().end(4), NONE);
        });
    }

    // ---- promises 14 to 16: what is best

    private static void best() {
        promise(14, "BEST: what 0 who, 1 how many, 2 FINES. NONE: what; BAD; STATE: nobody is there.", () -> {
            for (int what : beyond(2)) {
                refused("best(0, " + what + ")", x -> x.best(0, what), NONE);
                refused("best(10, " + what + ")", x -> x.best(10, what), NONE);
                due("best(10, " + what + ") of nobody", new OneFewer().best(10, what), NONE);
            }
            for (int number : beyond(9)) {
                refused("best(" + number + ", 2)", x -> x.best(number, 2), BAD);
                due("best(" + number + ", 2) of nobody", new OneFewer().best(number, 2), BAD);
            }
            refusedOf("best(0, 0) of nobody", OneFewer::new, x -> x.best(0, 0), STATE);
            refusedOf("best(9, 2) of nobody", OneFewer::new, x -> x.best(9, 2), STATE);
            due("best(0, 0) of one", Edges.strangers(0).best(0, 0), 0);
        });
    }

    private static void choice() {
        promise(15, "CHOICE: what 0 the set, 1 how many. NONE; STATE: that one has not HEARD it, or has TOLD it.", () -> {
            for (int person : beyond(5)) {
                refused("choice(" + person + ", 0)", x -> x.choice(person, 0), NONE);
            }
            for (int what : beyond(1)) {
                refused("choice(1, " + what + ")", x -> x.choice(1, what), NONE);
                refused("choice(0, " + what + "), who has TOLD it", x -> x.choice(0, what), NONE);
                refused("choice(4, " + what + "), who has not HEARD it", x -> x.choice(4, what), NONE);
            }
            for (int what = 0; what < 2; what++) {
                int one = what;
                refused("choice(0, " + what + "), who has TOLD it", x -> x.choice(0, one), STATE);
                refused("choice(3, " + what + "), who has not HEARD it", x -> x.choice(3, one), STATE);
                refused("choice(5, " + what + "), who has not HEARD it", x -> x.choice(5, one), STATE);
            }
            due("choice(1, 0), who has yet to", Edges.rich().choice(1, 0), 8);
        });
    }

    private static void reach() {
        promise(16, "REACH; -5. NONE; STATE: likewise of the first.", () -> {
            for (int one : beyond(5)) {
                refused("reach(" + one + ", 0)", x -> x.reach(one, 0), NONE);
                refused("reach(1, " + one + ")", x -> x.reach(1, one), NONE);
                refused("reach(0, " + one + "), who has TOLD it", x -> x.reach(0, one), NONE);
                refused("reach(4, " + one + "), who has not HEARD it", x -> x.reach(4, one), NONE);
            }
            for (int other = 0; other < 6; other++) {
                int one = other;
                refused("reach(0, " + other + "), who has TOLD it", x -> x.reach(0, one), STATE);
                refused("reach(4, " + other + "), who has not HEARD it", x -> x.reach(4, one), STATE);
            }
            OneFewer x = Edges.rich();
            due("reach(2, 0), the other has TOLD it", x.reach(2, 0), 24);
            due("reach(2, 1), the other has HEARD it", x.reach(2, 1), 24);
            due("reach(2, 5), the other has not", x.reach(2, 5), 40);
            due("reach(1, 4)", x.reach(1, 4), NEVER);
        });
    }

    // ---- promises 17 to 23: seen, odds

    private static void see() {
        promise(17, "What was SEEN comes: how many there are (heard -1: none then, 0, whatever the other is). BAD: heard (bits of PEOPLE), days; FULL.",
            () -> {
                for (int heard : beyond(63)) {
                    if (heard != -1) {
                        refused("see(" + heard + ", 0)", x -> x.see(heard, 0), BAD);
                        refusedOf("see(" + heard + ", 0), full", EdgePromisesTest::fullSeen, x -> x.see(heard, 0), BAD);
                    }
                }
                for (int days : beyond(6)) {
                    refused("see(1, " + days + ")", x -> x.see(1, days), BAD);
                    refusedOf("see(1, " + days + "), full", EdgePromisesTest::fullSeen, x -> x.see(1, days), BAD);
                    due("see(-1, " + days + ")", fullSeen().see(-1, days), 0);
                    due("see(-1, " + days + ") of none", new OneFewer().see(-1, days), 0);
                }
                refusedOf("see(1, 0), full", EdgePromisesTest::fullSeen, x -> x.see(1, 0), FULL);
                refusedOf("see(8, 0), full", EdgePromisesTest::fullSeen, x -> x.see(8, 0), BAD);
                refusedOf("see(7, 6), full", EdgePromisesTest::fullSeen, x -> x.see(7, 6), FULL);
                for (int people = 0; people <= 7; people++) {
                    OneFewer x = Edges.strangers(new int[people]);
                    due("all of " + people, x.see((1 << people) - 1, 6), 1);
                    due("none of " + people, x.see(0, 0), 2);
                    due("one more than " + people, x.see(1 << people, 0), BAD);
                    due("see(-1, 0)", x.see(-1, 0), 0);
                    due("began(0)", x.began(0), 7 * people);
                    due("count(2)", x.count(2), 0);
                }
            });
    }

    private static void began() {
        promise(18, "BEGAN: what 0 how many, 1 the first (-5). NONE.", () -> {
            for (int what : beyond(1)) {
                refused("began(" + what + ")", x -> x.began(what), NONE);
                due("began(" + what + ") of nobody", new OneFewer().began(what), NONE);
            }
        });
    }

    private static void stops() {
        promise(19, "STOPS. -1001: NONE; -1002: STATE: that one HEARD it.", () -> {
            for (int person : beyond(5)) {
                refused("stops(" + person + ")", x -> x.stops(person), -1001);
            }
            refused("stops(0), who has TOLD it", x -> x.stops(0), -1002);
            refused("stops(1), who has yet to", x -> x.stops(1), -1002);
            refused("stops(4), who has not HEARD it", x -> x.stops(4), 0);
        });
    }

    private static void odds() {
        promise(20, "ODDS; part 0 above, 1 below the line. NO: person, number, part, there are no others.", () -> {
            for (int person : beyond(5)) {
                refused("odds(" + person + ", 0, 0)", x -> x.odds(person, 0, 0), NO);
            }
            for (int number : beyond(9)) {
                refused("odds(0, " + number + ", 0)", x -> x.odds(0, number, 0), NO);
            }
            for (int part : beyond(1)) {
                refused("odds(0, 0, " + part + ")", x -> x.odds(0, 0, part), NO);
            }
            refusedOf("odds(0, 0, 0) alone", () -> Edges.strangers(0), x -> x.odds(0, 0, 0), NO);
            refusedOf("odds(0, 9, 1) alone", () -> Edges.strangers(0), x -> x.odds(0, 9, 1), NO);
            due("odds(5, 9, 1)", Edges.strangers(0, 0, 0, 0, 0, 0).odds(5, 9, 1), 1);
        });
    }

    private static void mean() {
        promise(21, "MEAN; part likewise. NO: number, part, nobody is there.", () -> {
            for (int number : beyond(9)) {
                refused("mean(" + number + ", 0)", x -> x.mean(number, 0), NO);
            }
            for (int part : beyond(1)) {
                refused("mean(0, " + part + ")", x -> x.mean(0, part), NO);
            }
            refusedOf("mean(0, 0) of nobody", OneFewer::new, x -> x.mean(0, 0), NO);
            due("mean(9, 1) of one", Edges.strangers(0).mean(9, 1), 1);
        });
    }

    private static void book() {
        promise(22, "A row comes to BOOK: how many there are (person -1: none then, 0, whatever the other is). NONE; BAD: day (0 .. 999); FULL.", () -> {
            for (int person : beyond(5)) {
                if (person != -1) {
                    refused("book(" + person + ", 0)", x -> x.book(person, 0), NONE);
                    refused("book(" + person + ", 1000)", x -> x.book(person, 1000), NONE);
                    refusedOf("book(" + person + ", 1000), full", EdgePromisesTest::fullBook, x -> x.book(person, 1000), NONE);
                }
            }
            for (int day : beyond(999)) {
                refused("book(0, " + day + ")", x -> x.book(0, day), BAD);
                refusedOf("book(0, " + day + "), full", EdgePromisesTest::fullBook, x -> x.book(0, day), BAD);
                due("book(-1, " + day + ")", fullBook().book(-1, day), 0);
                due("book(-1, " + day + ") of none", new OneFewer().book(-1, day), 0);
            }
            refusedOf("book(0, 0), full", EdgePromisesTest::fullBook, x -> x.book(0, 0), FULL);
            refusedOf("book(2, 999), full", EdgePromisesTest::fullBook, x -> x.book(2, 999), FULL);
            refusedOf("book(3, 0), full", EdgePromisesTest::fullBook, x -> x.book(3, 0), NONE);
            OneFewer x = fullBook();
            due("looked()", x.looked(), NEVER);
            due("book(-1, 0)", x.book(-1, 0), 0);
            due("count(3)", x.count(3), 0);
            due("looked() at none", x.looked(), NEVER);
            due("book(2, 999)", x.book(2, 999), 1);
            due("book(0, 0)", x.book(0, 0), 2);
            due("looked()", x.looked(), 0);
        });
    }

    private static void looked() {
        promise(23, "LOOKED at; -5.", () -> {
            due("of nobody", new OneFewer().looked(), NEVER);
            due("of no rows", fullPeople().looked(), NEVER);
            due("all are so", fullBook().looked(), NEVER);
            OneFewer x = fullBook();
            x.begin(0, 9);
            due("the first is not so", x.looked(), 0);
        });
    }

    // ---- promises 24 to 29: acts, the image

    private static OneFewer richWithoutTrace() {
        OneFewer x = Edges.rich();
        x.act(-1, 0, 0);
        return x;
    }

    private static void act() {
        promise(24, "An ACT (0 hears, 1 tells, 2 pays) of one with x. 0, and no TRACE then: no such one, act.", () -> {
            for (int person : beyond(5)) {
                refusedOf("act(" + person + ", 0, 5)", EdgePromisesTest::richWithoutTrace, x -> x.act(person, 0, 5), 0);
            }
            for (int act : beyond(2)) {
                refusedOf("act(0, " + act + ", 5)", EdgePromisesTest::richWithoutTrace, x -> x.act(0, act, 5), 0);
                refusedOf("act(5, " + act + ", 5)", EdgePromisesTest::richWithoutTrace, x -> x.act(5, act, 5), 0);
                refusedOf("act(6, " + act + ", 5)", EdgePromisesTest::richWithoutTrace, x -> x.act(6, act, 5), 0);
                OneFewer y = Edges.rich();
                due("trace(0) ahead", y.trace(0), 41);
                due("act(0, " + act + ", 5)", y.act(0, act, 5), 0);
                due("trace(0) behind", y.trace(0), NONE);
                due("count(5)", y.count(5), 0);
            }
            OneFewer x = Edges.rich();
            due("act(6, 0, 5)", x.act(6, 0, 5), 0);
            due("trace(0)", x.trace(0), NONE);
            due("count(5)", x.count(5), 0);
            due("act(0, 0, 5)", x.act(0, 0, 5), 5);
            // (5 + 5) ^ 5 is 15; less v, 7, it is 8; that as -8, twice
            due("act(5, 2, 5), the last of each", x.act(5, 2, 5), -16);
            due("count(5)", x.count(5), 5);
        });
        promise(24, "An ACT (0 hears, 1 tells, 2 pays) of one with x.", () ->
            Edges.keeps("an ACT changes THE TRACE alone", EdgePromisesTest::richWithoutTrace, x -> {
                x.act(4, 2, 9);
                return x.act(9, 0, 0);
            }, 0));
    }

    private static void trace() {
        promise(25, "THE TRACE's i-th body. NONE.", () -> {
            // pays of an EARLY one ran seven
            for (int i : beyond(6)) {
                refused("trace(" + i + ")", x -> x.trace(i), NONE);
            }
            int[] bodies = {41, 3, 2, 11, 1, 11, 1};
            for (int i = 0; i < bodies.length; i++) {
                due("trace(" + i + ")", Edges.rich().trace(i), bodies[i]);
            }
            due("trace(0) ahead of any act()", new OneFewer().trace(0), NONE);
            OneFewer x = Edges.rich();
            x.act(0, 0, 0);
            due("trace(0) of one", x.trace(0), 1);
            due("trace(1) of one", x.trace(1), NONE);
        });
    }

    private static void as() {
        promise(26, "One taken for a KIND k (0 .. 6), or one under that: v. NONE: person, k; -6: of another KIND.", () -> {
            for (int person : beyond(5)) {
                refused("as(" + person + ", 0)", x -> x.as(person, 0), NONE);
                refused("as(" + person + ", 7)", x -> x.as(person, 7), NONE);
            }
            for (int k : beyond(6)) {
                refused("as(0, " + k + ")", x -> x.as(0, k), NONE);
                refused("as(5, " + k + ")", x -> x.as(5, k), NONE);
            }
            String[] under = {"0", "01", "02", "03", "014", "025", "036"};
            OneFewer x = new OneFewer();
            for (int kind = 0; kind < 7; kind++) {
                x.person(kind, kind == 0 ? 0 : 9);
                for (int k = 0; k < 7; k++) {
                    int want = under[kind].indexOf('0' + k) >= 0 ? kind == 0 ? 0 : 9 : -6;
                    due("as(" + kind + ", " + k + ")", x.as(kind, k), want);
                }
            }
        });
    }

    private static void image() {
        promise(27, "THE IMAGE is taken: how many PEOPLE there are.", () -> {
            for (int people = 0; people <= 7; people++) {
                OneFewer x = Edges.strangers(new int[people]);
                due("image()", x.image(), people);
                due("image() again", x.image(), people);
            }
            Edges.keeps("image() changes THE IMAGE alone", () -> {
                OneFewer x = Edges.rich();
                x.image();
                return x;
            }, x -> x.image(), 6);
        });
    }

    private static void undo() {
        promise(28, "All is as THE IMAGE: how many PEOPLE. STATE: there is none.", () -> {
            refusedOf("undo() of a new one", OneFewer::new, x -> x.undo(), STATE);
            refusedOf("undo() of seven", EdgePromisesTest::fullPeople, x -> x.undo(), STATE);
            OneFewer x = Edges.strangers(0, 0, 0);
            due("undo()", x.undo(), STATE);
            due("count(0)", x.count(0), 3);
            x.image();
            due("undo()", x.undo(), 3);
            x.person(0, 0);
            due("undo()", x.undo(), 3);
            due("undo()", x.undo(), 3);
            x.person(0, 0);
            x.image();
            due("undo() to the newer one", x.undo(), 4);
            OneFewer full = fullPeople();
            full.image();
            due("undo()", full.undo(), 7);
            due("person(0, 0)", full.person(0, 0), FULL);
            OneFewer towns = fullTowns();
            towns.image();
            due("town()", towns.town(), FULL);
            towns.undo();
            due("town() behind undo()", towns.town(), FULL);
            OneFewer word = Edges.chain(2);
            word.begin(0, 4);
            word.day();
            word.image();
            word.day();
            word.begin(1, 7);
            word.day();
            word.begin(0, 6);
            word.undo();
            due("the DAY 0 HEARD it", word.of(0, 5), 0);
            due("the DAY 1 HEARD it", word.of(1, 5), 0);
            due("NUMBER of 0", word.of(0, 3), 4);
            due("NUMBER of 1", word.of(1, 3), 3);
            due("DAY", word.told(0), 1);
            due("0 has TOLD it", word.of(0, 4), 1);
            due("1 has yet to", word.of(1, 4), 0);
            OneFewer early = new OneFewer();
            early.image();
            for (int i = 0; i < 5; i++) {
                Edges.town(early, "law 1");
            }
            early.undo();
            due("town() behind undo() to none", Edges.town(early, "law 1"), 0);
        });
    }

    private static void count() {
        promise(29, "0 PEOPLE, 1 TOWNS, 2 of SEEN, 3 rows of BOOK, 4 signs of THE TAPE, 5 bodies that ran in the latest act() "
            + "(all, kept or not). NONE.", () -> {
            for (int what : beyond(5)) {
                refused("count(" + what + ")", x -> x.count(what), NONE);
            }
            int[] want = {6, 1, 2, 2, 7, 7};
            OneFewer x = Edges.rich();
            for (int what = 0; what < 6; what++) {
                due("count(" + what + ")", x.count(what), want[what]);
            }
            due("PEOPLE, full", fullPeople().count(0), 7);
            due("TOWNS, full", fullTowns().count(1), 5);
            due("SEEN, full", fullSeen().count(2), 6);
            due("BOOK, full", fullBook().count(3), 8);
            due("THE TAPE, full", fullTape().count(4), 100);
        });
        Edges.test("NONE there is no such one of the PEOPLE, KIND, what, part, i; BAD a number is not as told", () -> {
            for (int below : BELOW) {
                refused("of(0, " + below + ")", x -> x.of(0, below), NONE);
                refused("begin(0, " + below + ")", x -> x.begin(0, below), BAD);
            }
        });
    }

    /** Each call that can be refused, once for each word of refusal. */
    private static long[][] refusals(OneFewer x) {
        return new long[][] {
            {x.feed(128), BAD}, {x.person(7, 10), NONE}, {x.person(6, 10), BAD}, {x.of(6, 0), NONE}, {x.know(0, 6, true), NONE},
            {x.know(1, 1, true), BAD}, {x.row(2, 6), NONE}, {x.row(3, 0), STATE}, {x.told(5), NONE}, {x.begin(6, 0), NONE},
            {x.begin(0, 10), BAD}, {x.sum(13), NO}, {x.enough(-1), BAD}, {x.end(4), NONE}, {x.best(0, 3), NONE}, {x.best(10, 0), BAD},
            {x.choice(1, 2), NONE}, {x.choice(0, 0), STATE}, {x.reach(1, 6), NONE}, {x.reach(3, 0), STATE}, {x.see(64, 0), BAD},
            {x.see(1, 7), BAD}, {x.began(2), NONE}, {x.stops(6), -1001}, {x.stops(0), -1002}, {x.odds(6, 0, 0), NO}, {x.mean(10, 0), NO},
            {x.book(6, 0), NONE}, {x.book(0, 1000), BAD}, {x.trace(7), NONE}, {x.as(6, 0), NONE}, {x.as(0, 6), -6}, {x.count(6), NONE}};
    }

    private static void refusals() {
        Edges.test("STATE as told; FULL. They change nothing.", () -> {
            Edges.keeps("all refusals, one behind the other, twice", Edges::rich, x -> {
                for (int times = 0; times < 2; times++) {
                    long[][] rows = refusals(x);
                    for (int i = 0; i < rows.length; i++) {
                        due("refusal " + i, rows[i][0], rows[i][1]);
                    }
                }
                return x.count(0);
            }, 6);
        });
        Edges.test("An object is used for at most 512 calls after it has been made", () -> {
            OneFewer x = new OneFewer();
            int calls = 0;
            for (int kind = 0; kind < 7; kind++) {
                x.person(kind, kind);
                calls++;
            }
            x.know(0, 6, true);
            x.image();
            calls += 2;
            while (calls < 510) {
                x.begin(0, 1);
                due("day() after " + calls + " calls", x.day(), 1);
                due("undo() after " + calls + " calls", x.undo(), 7);
                calls += 3;
            }
            due("calls till now", calls, 510);
            due("the last but one", x.best(1, 0), 0);
            due("the 512th call", x.best(1, 1), 2);
        });
    }

    private static void all() {
        Edges.test("## Promise 29", () -> {
            for (int number = 1; number < TESTED.length; number++) {
                due("tests of promise " + number, TESTED[number] ? 1 : 0, 1);
            }
        });
    }

    public static void main(String[] args) {
        newObject();
        feed();
        town();
        person();
        of();
        know();
        row();
        told();
        begin();
        day();
        sum();
        enough();
        end();
        best();
        choice();
        reach();
        see();
        began();
        stops();
        odds();
        mean();
        book();
        looked();
        act();
        trace();
        as();
        image();
        undo();
        count();
        refusals();
        all();
        Edges.end();
    }
}
