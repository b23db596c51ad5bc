import java.util.function.Supplier;

/** A test for each sentence of the document's Terms, part 2, that names a boundary. */
public final class EdgeAskedTest {
    private static final int NONE = Edges.NONE, BAD = Edges.BAD, FULL = Edges.FULL, NEVER = Edges.NEVER;
    private static final long NO = Edges.NO;
    private static final int HEARER = 0, BOUND = 1, KEEPER = 2, SAVED = 3, EARLY = 4, DEAF = 5, TOLD = 6;
    private static final int MAX = Edges.MAX, MIN = Edges.MIN;

    private static void due(String call, long got, long want) {
        Edges.due(call, got, want);
    }

    private static OneFewer with(OneFewer x, String town) {
        due("town() of " + town, Edges.town(x, town) < 0 ? 1 : 0, 0);
        return x;
    }

    // ---- nothing changes

    private static void changesNothing() {
        Edges.test("2 All that follows is asked, and changes nothing.", () -> {
            Supplier<OneFewer> rich = Edges::rich;
            Edges.keeps("sum(3)", rich, x -> x.sum(3), 15);
            Edges.keeps("enough(15)", rich, x -> x.enough(15), 3);
            // 1 tells 3 and lacks a head; 2 tells 5 and 3; those tell nobody on the DAY behind
            Edges.keeps("end(0)", rich, x -> x.end(0), 2);
            Edges.keeps("end(1)", rich, x -> x.end(1), 5);
            Edges.keeps("end(2)", rich, x -> x.end(2), 3);
            Edges.keeps("end(3)", rich, x -> x.end(3), 16);
            Edges.keeps("best(0, 0)", rich, x -> x.best(0, 0), 4);
            Edges.keeps("best(0, 1)", rich, x -> x.best(0, 1), 2);
            Edges.keeps("best(0, 2)", rich, x -> x.best(0, 2), 0);
            Edges.keeps("choice(2, 0), 3 being told by 1", rich, x -> x.choice(2, 0), 48);
            Edges.keeps("choice(2, 1)", rich, x -> x.choice(2, 1), 6);
            Edges.keeps("reach(2, 4)", rich, x -> x.reach(2, 4), 24);
            Edges.keeps("stops(3)", rich, x -> x.stops(3), 0);
            Edges.keeps("odds(1, 0, 0)", rich, x -> x.odds(1, 0, 0), 0);
            Edges.keeps("mean(0, 1)", rich, x -> x.mean(0, 1), 1);
            Edges.keeps("began(0)", rich, x -> x.began(0), 5);
            Edges.keeps("began(1)", rich, x -> x.began(1), 2);
            Edges.keeps("looked()", rich, x -> x.looked(), 1);
            Edges.keeps("of(2, 9)", rich, x -> x.of(2, 9), 40);
            Edges.keeps("told(4)", rich, x -> x.told(4), 7);
            Edges.keeps("as(4, 1)", rich, x -> x.as(4, 1), 6);
            Edges.keeps("trace(6)", rich, x -> x.trace(6), 1);
            Edges.keeps("count(5)", rich, x -> x.count(5), 7);
        });
    }

    // ---- sums

    private static void sums() {
        Edges.test("SUM of a number k (0 .. 12), how many hear it", () -> {
            OneFewer x = new OneFewer();
            due("sum(-1)", x.sum(-1), NO);
            due("sum(0)", x.sum(0), 0);
            due("sum(12)", x.sum(12), 1302061344L);
            due("sum(13)", x.sum(13), NO);
            due("sum(MAX)", x.sum(MAX), NO);
            due("sum(MIN)", x.sum(MIN), NO);
        });
        Edges.test("of 0: 0; else k, and k times SUM of (k less fewer, 0 at least), together; fewer being 0: k.", () -> {
            for (int fewer : new int[] {0, 1, 2, 3, 11, 12, 13, 99}) {
                due("sum(0), fewer " + fewer, with(new OneFewer(), "fewer " + fewer).sum(0), 0);
                due("sum(1), fewer " + fewer, with(new OneFewer(), "fewer " + fewer).sum(1), 1);
            }
            long[][] due = {{0, 12, 12}, {0, 7, 7}, {1, 2, 4}, {2, 2, 2}, {2, 3, 6}, {2, 4, 12}, {2, 12, 75972}, {3, 3, 3}, {3, 4, 8},
                {3, 6, 24}, {3, 7, 63}, {6, 12, 84}, {11, 11, 11}, {11, 12, 24}, {12, 12, 12}, {13, 12, 12}, {99, 12, 12}};
            for (long[] row : due) {
                due("sum(" + row[1] + "), fewer " + row[0], with(new OneFewer(), "fewer " + row[0]).sum((int) row[1]), row[2]);
            }
        });
        Edges.test("all being HEARERS", () -> {
            OneFewer x = Edges.friends(EARLY, DEAF, KEEPER);
            with(x, "shun p<9;fine 1 p<9");
            due("sum(3)", x.sum(3), 15);
        });
        Edges.test("ENOUGH of m (0 .. 999999999): the least k (0 .. 12) with SUM of m or more (-5: none).", () -> {
            OneFewer x = new OneFewer();
            due("enough(-1)", x.enough(-1), BAD);
            due("enough(MIN)", x.enough(MIN), BAD);
            due("enough(1000000000)", x.enough(1000000000), BAD);
            due("enough(MAX)", x.enough(MAX), BAD);
            due("enough(999999999)", x.enough(999999999), 12);
            int[] sums = {0, 1, 4, 15, 64, 325, 1956, 13699, 109600, 986409, 9864100, 108505111};
            for (int k = 0; k < sums.length; k++) {
                due("enough of SUM itself", x.enough(sums[k]), k);
                due("enough of one more", x.enough(sums[k] + 1), k + 1);
            }
            with(x, "fewer 2");
            due("enough(6330), fewer 2", x.enough(6330), 10);
            due("enough(6331), fewer 2", x.enough(6331), 11);
            due("enough(75972), fewer 2", x.enough(75972), 12);
            due("enough(75973), fewer 2", x.enough(75973), NEVER);
            due("enough(999999999), fewer 2", x.enough(999999999), NEVER);
            with(x, "fewer 0");
            due("enough(0), fewer 0", x.enough(0), 0);
            due("enough(12), fewer 0", x.enough(12), 12);
            due("enough(13), fewer 0", x.enough(13), NEVER);
            // SUM is 24 of 12, and k of all below
            with(x, "fewer 11");
            due("enough(11), fewer 11", x.enough(11), 11);
            due("enough(24), fewer 11", x.enough(24), 12);
            due("enough(25), fewer 11", x.enough(25), NEVER);
        });
    }

    // ---- the end, the best

    private static void ends(OneFewer x, int days, int heard, int fines, int rest) {
        due("end(0)", x.end(0), days);
        due("end(1)", x.end(1), heard);
        due("end(2)", x.end(2), fines);
        due("end(3)", x.end(3), rest);
    }

    private static void ends() {
        Edges.test("END: when DAYS go on till nobody who has HEARD it has yet to tell it: how many DAYS that takes; "
            + "how many have HEARD it then; FINES then; who has not HEARD it, as bits.", () -> {
            ends(new OneFewer(), 0, 0, 0, 0);
            ends(Edges.strangers(0), 0, 0, 0, 1);
            ends(Edges.friends(0, 0, 0, 0, 0, 0, 0), 0, 0, 0, 127);
            OneFewer x = with(Edges.chain(7), "fine 1 p=6");
            x.begin(0, 0);
            ends(x, 1, 1, 0, 126);
            x.begin(0, 1);
            ends(x, 2, 2, 0, 124);
            x.begin(0, 5);
            ends(x, 6, 6, 0, 64);
            x.begin(0, 6);
            ends(x, 7, 7, 0, 0);
            x.begin(0, 9);
            ends(x, 7, 7, 3, 0);
            for (int days = 6; days >= 0; days--) {
                x.day();
                ends(x, days, 7, 3, 0);
            }
            x.day();
            ends(x, 0, 7, 3, 0);
            due("FINES are no more", x.told(1), 3);
        });
    }

    private static void best(OneFewer x, int number, int who, int heard, int fines) {
        due("best(" + number + ", 0)", x.best(number, 0), who);
        due("best(" + number + ", 1)", x.best(number, 1), heard);
        due("best(" + number + ", 2)", x.best(number, 2), fines);
    }

    private static void bests() {
        Edges.test("BEST of a NUMBER (0 .. 9): with whom the WORD should begin now so that at the END of it most have HEARD it; "
            + "of several that by which FINES are least; of several the least: who; how many; FINES.", () -> {
            OneFewer x = with(Edges.strangers(0), "fine 99 p=0");
            due("best(-1, 0)", x.best(-1, 0), BAD);
            due("best(10, 0)", x.best(10, 0), BAD);
            best(x, 0, 0, 1, 0);
            best(x, 9, 0, 1, 891);
            best(Edges.strangers(0, 0, 0, 0, 0, 0, 0), 9, 0, 1, 0);
            best(Edges.star(7), 6, 0, 7, 0);
            best(Edges.star(7), 7, 0, 7, 0);
            // at each of 3 ears 1 is lacked, at the begin 1 by all but 0: 0 has 2 ears
            best(with(Edges.star(4), "fine 1 p<9"), 2, 1, 3, 1);
            best(with(Edges.star(4), "fine 1 p=1|p=2"), 2, 3, 3, 0);
            best(with(Edges.star(4), "fine 1 p=1|p=3"), 2, 2, 3, 0);
            best(with(Edges.star(4), "fine 1 n=1"), 2, 1, 3, 0);
            // by fewer 3 the last one alone reaches all three others it KNOWS, and lacks one
            OneFewer y = with(Edges.strangers(0, 0, 0, 0, 0, 0, 0), "fewer 3;fine 99 p=6");
            for (int other = 3; other < 6; other++) {
                y.know(6, other, true);
            }
            best(y, 4, 6, 4, 99);
            best(y, 3, 6, 4, 0);
            best(y, 0, 0, 1, 0);
            // as many by each, but one lacks a head
            OneFewer early = with(Edges.strangers(EARLY, 0), "fine 1 p=0");
            best(early, 0, 1, 1, 0);
        });
        Edges.test("with whom the WORD should begin now", () -> {
            OneFewer x = with(Edges.chain(3), "shun p=0&d=0|p=2&d=0");
            best(x, 2, 1, 3, 0);
            best(x, 1, 1, 2, 0);
            x.day();
            best(x, 2, 0, 3, 0);
            best(x, 1, 0, 2, 0);
            x.begin(2, 9);
            x.day();
            due("what has begun counts no more", x.best(0, 1), 1);
        });
    }

    /** 0 KNOWS 1, 2 and 3; 3 KNOWS 4; 5 KNOWS nobody. */
    private static OneFewer tree(int kind) {
        OneFewer x = Edges.strangers(kind, 0, 0, 0, 0, 0);
        x.know(0, 1, true);
        x.know(0, 2, true);
        x.know(0, 3, true);
        x.know(3, 4, true);
        return x;
    }

    private static void choice(OneFewer x, int set, int heard) {
        due("choice(0, 0)", x.choice(0, 0), set);
        due("choice(0, 1)", x.choice(0, 1), heard);
    }

    private static void choices() {
        Edges.test("CHOICE of one who has yet to tell it: of all sets it could choose (as many as it is ASKED of MAY, all if there are "
            + "fewer), all others choosing as they do, that by which at the END most have HEARD it; of several the least as bits: the set; "
            + "how many.", () -> {
            for (int kind = 0; kind < 7; kind++) {
                OneFewer x = tree(kind);
                int[] sets = {0, 2, 10, 14, 14};
                int[] heard = {1, 2, 4, 5, 5};
                for (int asked = 0; asked < 5; asked++) {
                    // DEAF and KEEPER of v 0 keep 0 alone; EARLY is never ASKED none
                    int number = kind == EARLY ? asked - 1 : asked;
                    if (number >= 0) {
                        x.begin(0, number);
                        // 4 is told by 3 if that one's NUMBER is 1 or more
                        boolean reaches = number > 1;
                        choice(x, asked == 2 && !reaches ? 6 : sets[asked], asked == 2 && !reaches ? 3 : heard[asked]);
                    }
                }
            }
            OneFewer alone = Edges.strangers(0);
            alone.begin(0, 9);
            choice(alone, 0, 1);
            OneFewer alike = Edges.friends(0, 0, 0, 0, 0, 0, 0);
            alike.begin(0, 1);
            choice(alike, 2, 2);
            alike.begin(0, 5);
            choice(alike, 62, 7);
            alike.begin(0, 6);
            choice(alike, 126, 7);
            alike.begin(0, 9);
            choice(alike, 126, 7);
            alike.begin(6, 1);
            due("choice(6, 0)", alike.choice(6, 0), 1);
            OneFewer last = Edges.star(7);
            last.know(0, 6, false);
            last.know(5, 6, true);
            last.begin(0, 2);
            choice(last, 34, 4);
            OneFewer first = Edges.star(4);
            first.person(0, 0);
            first.know(1, 4, true);
            first.begin(0, 2);
            choice(first, 6, 4);
        });
        Edges.test("all others choosing as they do", () -> {
            OneFewer x = Edges.friends(0, 0, 0, 0, 0, 0);
            x.begin(0, 2);
            x.day();
            // 1 and 2 tell one each, 2 the least, 3: so 1 does best by another one
            due("choice(1, 0)", x.choice(1, 0), 16);
            due("choice(1, 1)", x.choice(1, 1), 5);
            due("choice(2, 0)", x.choice(2, 0), 16);
            due("end(1)", x.end(1), 4);
        });
        Edges.test("REACH of one who has yet to tell it and another one: the least such set, as bits, by which that other one has HEARD it "
            + "at the END (-5: none).", () -> {
            OneFewer x = tree(HEARER);
            x.begin(0, 2);
            due("reach(0, 1)", x.reach(0, 1), 6);
            due("reach(0, 2)", x.reach(0, 2), 6);
            due("reach(0, 3)", x.reach(0, 3), 10);
            due("reach(0, 4)", x.reach(0, 4), 10);
            due("reach(0, 5)", x.reach(0, 5), NEVER);
            x.begin(0, 1);
            due("reach(0, 3) by 1", x.reach(0, 3), 8);
            due("reach(0, 4) by 1", x.reach(0, 4), NEVER);
            x.begin(0, 9);
            due("reach(0, 4) by all", x.reach(0, 4), 14);
            x.begin(0, 0);
            due("reach(0, 1) by none", x.reach(0, 1), NEVER);
            x.begin(0, 1);
            x.day();
            due("reach(1, 0), who has HEARD it, by none", x.reach(1, 0), 0);
            due("reach(1, 2) by none", x.reach(1, 2), NEVER);
            OneFewer y = Edges.friends(0, 0, 0, 0, 0, 0, 0);
            y.begin(0, 1);
            due("reach(0, 6), the greatest", y.reach(0, 6), 64);
            y.begin(6, 1);
            due("reach(6, 0), the least", y.reach(6, 0), 1);
        });
    }

    // ---- what was seen, odds

    private static void seen() {
        Edges.test("SEEN told by hand: who had HEARD it, as bits, behind so many DAYS (0 .. 6) from when it began; 6 at most.", () -> {
            OneFewer x = Edges.chain(7);
            due("DAYS -1", x.see(1, -1), BAD);
            due("DAYS 7", x.see(1, 7), BAD);
            due("DAYS 0", x.see(64, 0), 1);
            due("began(0), with 6 by any NUMBER", x.began(0), 7);
            due("began(1)", x.began(1), 60);
            due("DAYS 6", x.see(127, 6), 2);
            due("began(0), with 6 by 6", x.began(0), 1);
            due("began(1)", x.began(1), 66);
            due("DAYS 5", x.see(126, 5), 3);
            due("began(0)", x.began(0), 1);
            due("the same again", x.see(126, 5), 4);
            due("began(0)", x.began(0), 1);
            due("DAYS 4", x.see(124, 4), 5);
            due("DAYS 1", x.see(96, 1), 6);
            due("began(1) by six", x.began(1), 66);
            due("the seventh", x.see(96, 1), FULL);
            due("count(2)", x.count(2), 6);
        });
        Edges.test("BEGAN: of all the people, and NUMBERS 0 .. 6, with whom and which it could have begun", () -> {
            due("of nobody", new OneFewer().began(0), 0);
            due("the first of nobody", new OneFewer().began(1), NEVER);
            for (int people = 1; people <= 7; people++) {
                OneFewer x = Edges.strangers(new int[people]);
                due("of " + people, x.began(0), 7 * people);
                due("the first", x.began(1), 0);
                x.see(1 << people - 1, 6);
                due("the last one's", x.began(0), 7);
                due("the first of the last one's", x.began(1), 10 * (people - 1));
            }
            // 4 in a row by 2 fewer each time: 5, 6; 5 in a row: 7 alone
            OneFewer four = with(Edges.chain(4), "fewer 2");
            four.see(1, 0);
            four.see(15, 3);
            due("began(0)", four.began(0), 2);
            due("began(1)", four.began(1), 5);
            OneFewer five = with(Edges.chain(5), "fewer 2");
            five.see(1, 0);
            five.see(31, 4);
            due("began(0) by 7 alone", five.began(0), 0);
            due("began(1) by 7 alone", five.began(1), NEVER);
        });
        Edges.test("DAY being then as it is now: how many there are by which all of SEEN is so; the first "
            + "(10 times who, and the NUMBER; -5: none).", () -> {
            OneFewer x = with(Edges.chain(2), "shun d=0");
            x.see(3, 1);
            due("on DAY 0", x.began(0), 0);
            due("on DAY 0", x.began(1), NEVER);
            x.day();
            due("on DAY 1", x.began(0), 12);
            due("on DAY 1", x.began(1), 1);
            x.see(1, 0);
            due("with 0", x.began(0), 6);
            x.see(2, 0);
            due("one of SEEN is not so", x.began(0), 0);
            due("one of SEEN is not so", x.began(1), NEVER);
            OneFewer y = Edges.chain(3);
            y.see(0, 0);
            due("nobody can not have HEARD it", y.began(0), 0);
            y.see(-1, 0);
            y.see(2, 6);
            due("1 by 0 tells nobody", y.began(0), 1);
            due("who 1, NUMBER 0", y.began(1), 10);
        });
        Edges.test("STOPS of one who has not HEARD it: how many fewer, that one aside, have HEARD it at the END, if that one can not hear it "
            + "(it is told in vain).", () -> {
            OneFewer x = Edges.chain(7);
            due("with no word", x.stops(3), 0);
            x.begin(0, 9);
            for (int one = 1; one < 7; one++) {
                due("stops(" + one + ")", x.stops(one), 6 - one);
            }
            x.begin(0, 0);
            due("nobody is told", x.stops(1), 0);
            OneFewer y = Edges.star(4);
            y.begin(0, 1);
            due("who is told in vain is told, so 2 is not", y.stops(1), 0);
            due("who is not told", y.stops(2), 0);
            OneFewer early = Edges.friends(EARLY, 0, 0);
            early.begin(0, 0);
            due("a vain one takes the place", early.stops(1), 0);
            y.begin(1, 2);
            y.day();
            // 0 tells 2 alone, in vain or not
            due("stops(2)", y.stops(2), 0);
            due("stops(3)", y.stops(3), 0);
        });
    }

    private static void odds(OneFewer x, int person, int number, long above, long below) {
        due("odds(" + person + ", " + number + ", 0)", x.odds(person, number, 0), above);
        due("odds(" + person + ", " + number + ", 1)", x.odds(person, number, 1), below);
    }

    private static void mean(OneFewer x, int number, long above, long below) {
        due("mean(" + number + ", 0)", x.mean(number, 0), above);
        due("mean(" + number + ", 1)", x.mean(number, 1), below);
    }

    private static void fractions() {
        Edges.test("ODDS of one by a NUMBER (0 .. 9): if the WORD begins now with any one of the others, each alike likely: how likely that "
            + "one has HEARD it at the END: a fraction in lowest terms.", () -> {
            OneFewer alone = Edges.strangers(0);
            odds(alone, 0, 1, NO, NO);
            OneFewer two = Edges.chain(2);
            odds(two, 0, -1, NO, NO);
            odds(two, 0, 10, NO, NO);
            odds(two, 0, 0, 0, 1);
            odds(two, 0, 1, 1, 1);
            odds(two, 1, 9, 1, 1);
            OneFewer x = Edges.star(7);
            odds(x, 0, 0, 0, 1);
            odds(x, 0, 1, 1, 1);
            odds(x, 1, 1, 1, 6);
            odds(x, 2, 1, 0, 1);
            odds(x, 2, 2, 1, 3);
            odds(x, 3, 3, 1, 2);
            odds(x, 4, 4, 2, 3);
            odds(x, 5, 5, 5, 6);
            odds(x, 6, 6, 1, 1);
            odds(x, 6, 9, 1, 1);
            x.begin(0, 9);
            x.day();
            odds(x, 2, 1, 0, 1);
        });
        Edges.test("MEAN of a NUMBER: the mean of FINES at the END, if it begins with any one: a fraction in lowest terms.", () -> {
            mean(new OneFewer(), 0, NO, NO);
            OneFewer one = with(Edges.strangers(0), "fine 99 p=0;fine 99 p=0;fine 99 p=0;fine 99 p=0;fine 99 p=0;fine 99 p=0;fine 99 p=0");
            mean(one, -1, NO, NO);
            mean(one, 10, NO, NO);
            mean(one, 0, 0, 1);
            mean(one, 1, 693, 1);
            mean(one, 9, 6237, 1);
            OneFewer seven = with(Edges.strangers(0, 0, 0, 0, 0, 0, 0), "fine 1 p=6");
            mean(seven, 0, 0, 1);
            mean(seven, 1, 1, 7);
            mean(seven, 7, 1, 1);
            mean(seven, 9, 9, 7);
            OneFewer six = with(Edges.strangers(0, 0, 0, 0, 0, 0), "fine 1 p=0");
            mean(six, 3, 1, 2);
            mean(six, 4, 2, 3);
            mean(six, 5, 5, 6);
            mean(six, 6, 1, 1);
            mean(six, 9, 3, 2);
            mean(with(Edges.chain(2), "fine 1 p=0&n=2"), 2, 1, 2);
            mean(with(Edges.chain(2), "fine 1 p=0"), 2, 1, 1);
            six.begin(0, 9);
            six.day();
            mean(six, 6, 1, 1);
        });
    }

    private static void books() {
        Edges.test("BOOK told by hand: one of the PEOPLE and the DAY on which that one HEARD it; 8 at most.", () -> {
            OneFewer x = Edges.strangers(0, 0);
            for (int i = 1; i <= 8; i++) {
                due("book(1, 999)", x.book(1, 999), i);
            }
            due("the ninth", x.book(0, 0), FULL);
            due("count(3)", x.count(3), 8);
        });
        Edges.test("LOOKED at: the first of which that is not so, as it is now (-5: none).", () -> {
            OneFewer x = Edges.chain(3);
            due("of no rows", x.looked(), NEVER);
            x.book(0, 0);
            due("nobody has HEARD it on DAY 0", x.looked(), 0);
            x.day();
            x.begin(0, 9);
            due("HEARD a DAY later", x.looked(), 0);
            x.book(-1, 0);
            x.book(0, 1);
            due("HEARD on DAY 1", x.looked(), NEVER);
            x.book(1, 1);
            due("not HEARD yet", x.looked(), 1);
            x.day();
            due("HEARD on DAY 1, too", x.looked(), NEVER);
            x.book(2, 3);
            x.day();
            due("HEARD a DAY sooner", x.looked(), 2);
            x.book(-1, 0);
            for (int i = 0; i < 7; i++) {
                x.book(2, 2);
            }
            due("all seven are so", x.looked(), NEVER);
            x.book(2, 1);
            due("the eighth is not", x.looked(), 7);
            x.begin(1, 0);
            due("as it is now", x.looked(), 0);
        });
    }

    // ---- acts, the image

    /** One of a KIND with number 0 or 1, and v. */
    private static OneFewer actor(int number, int kind, int v) {
        OneFewer x = new OneFewer();
        if (number == 1) {
            x.person(0, 0);
        }
        x.person(kind, v);
        return x;
    }

    private static void wraps() {
        Edges.test("ACTS of one with x (ints, wrapping): hears, tells, pays; i the number.", () -> {
            due("x + i", actor(1, HEARER, 0).act(1, 0, MAX), MIN);
            due("x + 0", actor(0, HEARER, 0).act(0, 0, MAX), MAX);
            due("x - v", actor(0, HEARER, 9).act(0, 1, MIN), MAX - 8);
            due("x - 0", actor(0, HEARER, 0).act(0, 1, MIN), MIN);
            due("x * 2, 2 to the 30th", actor(0, HEARER, 0).act(0, 2, 1 << 30), MIN);
            due("x * 2, one fewer", actor(0, HEARER, 0).act(0, 2, (1 << 30) - 1), MAX - 1);
            due("x * 2", actor(0, HEARER, 0).act(0, 2, MIN), 0);
            due("x * 2", actor(0, HEARER, 0).act(0, 2, MAX), -2);
            due("x * 3", actor(0, BOUND, 0).act(0, 0, MAX), 2147483645);
            due("x * 3", actor(0, BOUND, 0).act(0, 0, MIN), MIN);
            due("x * 3, a third and one", actor(0, BOUND, 0).act(0, 0, 715827883), -2147483647);
            due("x * 3, a third", actor(0, BOUND, 0).act(0, 0, 715827882), 2147483646);
            due("x * 3 + i", actor(1, BOUND, 0).act(1, 0, MIN), MIN + 1);
            due("x * 3 * 2", actor(0, BOUND, 0).act(0, 2, MAX), -6);
            due("less MIN", actor(0, KEEPER, 0).act(0, 1, MIN), MIN);
            due("less MAX", actor(0, KEEPER, 0).act(0, 1, MAX), MIN + 1);
            due("less (MIN - 1)", actor(0, KEEPER, 1).act(0, 1, MIN), MIN + 1);
            due("less, twice", actor(0, KEEPER, 0).act(0, 2, MIN), 0);
            due("x * 2 ^ 7", actor(0, SAVED, 0).act(0, 2, 1 << 30), MIN + 7);
            due("x * 2 ^ 7 of -1", actor(0, SAVED, 0).act(0, 2, -1), -7);
            due("(x - 1) * 3 * 2 + 6", actor(0, EARLY, 0).act(0, 2, MIN), 0);
            due("(x - 1) * 3 * 2 + 6 of 0", actor(0, EARLY, 0).act(0, 2, 0), 0);
            due("(x + i) ^ i", actor(1, DEAF, 0).act(1, 0, MAX), MIN + 1);
            due("(x + i) ^ i of -1", actor(1, DEAF, 0).act(1, 0, -1), 1);
            due("(x + i) ^ i of 0", actor(1, DEAF, 0).act(1, 0, 0), 0);
            due("- ((x + i) ^ i)", actor(1, DEAF, 0).act(1, 1, MAX), MAX);
            due("x - v + v", actor(0, TOLD, 9).act(0, 1, MIN), MIN);
            due("(x - v + v) * 2 ^ 7", actor(0, TOLD, 9).act(0, 2, MIN), 7);
        });
    }

    private static void traces() {
        Edges.test("the body of the KIND, or, if that has none, of the next KIND above that has one; super.hears(..): so from the KIND above "
            + "the body's on; what stands in a body is done from the left on.", () -> {
            int[][][] bodies = {{{1}, {2, 1}, {3, 2, 1}}, {{11, 1}, {2, 11, 1}, {3, 2, 11, 1}}, {{1}, {21, 2, 1}, {3, 21, 2, 1}},
                {{1}, {2, 1}, {31, 3, 2, 1}}, {{11, 1}, {2, 11, 1}, {41, 3, 2, 11, 1, 11, 1}}, {{51, 1}, {21, 2, 51, 1}, {3, 21, 2, 51, 1}},
                {{1}, {61, 2, 1}, {31, 3, 61, 2, 1}}};
            int[][] answers = {{5, 3, 6}, {15, 13, 26}, {5, -3, -6}, {5, 3, 1}, {15, 13, 26}, {5, -3, -6}, {5, 5, 13}};
            for (int kind = 0; kind < 7; kind++) {
                for (int act = 0; act < 3; act++) {
                    OneFewer x = actor(0, kind, 2);
                    due("act " + act + " of KIND " + kind, x.act(0, act, 5), answers[kind][act]);
                    int ran = bodies[kind][act].length;
                    due("count(5)", x.count(5), ran);
                    for (int i = 0; i < ran; i++) {
                        due("trace(" + i + ") of act " + act + " of KIND " + kind, x.trace(i), bodies[kind][act][i]);
                    }
                    for (int i = ran; i <= 21; i++) {
                        due("trace(" + i + ") behind the last", x.trace(i), NONE);
                    }
                }
            }
        });
        Edges.test("THE TRACE: the numbers of the bodies that ran in the latest act(), as they began; the first 20 are kept.", () -> {
            OneFewer x = actor(0, EARLY, 0);
            due("before any", x.count(5), 0);
            due("trace(0) before any", x.trace(0), NONE);
            x.act(0, 2, 1);
            due("of seven", x.trace(6), 1);
            due("behind seven", x.trace(7), NONE);
            x.act(0, 0, 1);
            due("the latest alone, count(5)", x.count(5), 2);
            due("trace(1)", x.trace(1), 1);
            due("trace(2)", x.trace(2), NONE);
            for (int i = 0; i < 30; i++) {
                x.act(0, 2, i);
            }
            due("thirty later, count(5)", x.count(5), 7);
            due("trace(0)", x.trace(0), 41);
            due("trace(7)", x.trace(7), NONE);
        });
    }

    private static OneFewer imaged() {
        OneFewer x = Edges.rich();
        x.image();
        return x;
    }

    private static OneFewer changed(OneFewer x) {
        x.person(DEAF, 0);
        x.know(6, 0, true);
        x.know(0, 1, false);
        x.row(2, -1);
        x.row(2, 4);
        x.see(-1, 0);
        x.see(1, 6);
        x.book(-1, 0);
        x.book(4, 9);
        x.town();
        Edges.town(x, "shun d<9;fewer 7");
        x.begin(6, 9);
        x.day();
        x.feed('x');
        return x;
    }

    private static void images() {
        Edges.test("THE IMAGE: all that there is (but THE IMAGE and THE TRACE).", () -> {
            Edges.keeps("undo()", EdgeAskedTest::imaged, x -> changed(x).undo(), 6);
            Edges.keeps("undo() twice", EdgeAskedTest::imaged, x -> x.undo() + 10 * changed(x).undo(), 66);
            OneFewer x = imaged();
            x.act(0, 1, 7);
            due("undo()", x.undo(), 6);
            due("THE TRACE stays", x.count(5), 2);
            due("trace(0)", x.trace(0), 2);
            OneFewer nobody = new OneFewer();
            due("image() of nobody", nobody.image(), 0);
            changed(nobody);
            Edges.feed(nobody, "law 1");
            due("undo() to nobody", nobody.undo(), 0);
            for (int what = 0; what < 6; what++) {
                due("count(" + what + ")", nobody.count(what), 0);
            }
            due("DAY", nobody.told(0), 0);
            due("fewer", nobody.told(2), 1);
            due("HEARD", nobody.told(4), 0);
            due("of(0, 0)", nobody.of(0, 0), NONE);
            due("the first again", nobody.person(0, 0), 0);
            due("KNOWS nobody", nobody.of(0, 6), 0);
        });
    }

    public static void main(String[] args) {
        changesNothing();
        sums();
        ends();
        bests();
        choices();
        seen();
        fractions();
        books();
        wraps();
        traces();
        images();
        Edges.end();
    }
}
