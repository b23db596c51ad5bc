import java.util.ArrayList;
import java.util.Arrays;
import java.util.HashMap;
import java.util.LinkedHashSet;
import java.util.List;
import java.util.Map;
import java.util.Set;
import java.util.TreeSet;

/**
 * Long made-up runs, each call answered by the class and by a model that is written anew from the
 * document in another way (sets, texts and brute force), so that a slip in one of them shows.
 */
public final class ModelTest {
    private static int wrong = 0;
    private static long seed = 1;

    /** Knuth's multiplier: the same numbers on every run. */
    private static int roll(int sides) {
        seed = seed * 6364136223846793005L + 1442695040888963407L;
        return (int) ((seed >>> 33) % sides);
    }

    private static final int[] ABOVE = {-1, 0, 0, 0, 1, 2, 3};

    private static boolean under(int kind, int k) {
        return kind >= 0 && (kind == k || under(ABOVE[kind], k));
    }

    // ---- towns as texts

    private static boolean isWhole(String town) {
        if (town.length() > 100 || town.isEmpty()) {
            return false;
        }
        String[] clauses = town.split(";", -1);
        if (clauses.length > 10) {
            return false;
        }
        for (String clause : clauses) {
            if (clause.matches("(fewer|law) (0|[1-9][0-9]?)")) {
                continue;
            }
            if (!clause.matches("(shun|fine (0|[1-9][0-9]?)) [^ ]*")) {
                return false;
            }
            if (!isCondition(clause.substring(clause.lastIndexOf(' ') + 1))) {
                return false;
            }
        }
        return true;
    }

    private static boolean isCondition(String text) {
        if (deepest(text) > 5) {
            return false;
        }
        String rest = text.replaceAll("[poknd][<=>](0(?![0-9])|[1-9][0-9]?(?![0-9]))", "t");
        for (int i = 0; i < 200; i++) {
            rest = rest.replace("!t", "t").replace("(t)", "t").replace("t&t", "t").replace("t|t", "t");
        }
        return rest.equals("t");
    }

    private static int deepest(String text) {
        String open = "";
        int most = 0;
        for (char c : text.toCharArray()) {
            if (c == '!' || c == '(') {
                open += c;
                most = Math.max(most, open.length());
            } else {
                if (c == ')' && open.endsWith("(")) {
                    open = open.substring(0, open.length() - 1);
                }
                if (c == ')' || c == '&' || c == '|' || Character.isDigit(c)) {
                    open = open.replaceAll("!+$", "");
                }
            }
        }
        return most;
    }

    private static final Set<String> GOING_ON = new LinkedHashSet<>();

    static {
        for (String clause : new String[] {"shun p=1", "fine 1 p=1", "fewer 1", "law 1"}) {
            for (int i = 0; i <= clause.length(); i++) {
                GOING_ON.add(clause.substring(i));
            }
        }
    }

    /** Whether a TOWN, of whatever length, goes on with this beginning. */
    private static boolean canGoOn(String beginning) {
        for (String more : GOING_ON) {
            String close = "";
            for (int i = 0; i <= 5; i++) {
                String town = beginning + more + close;
                if (isWholeOfAnyLength(town)) {
                    return true;
                }
                close += ")";
            }
        }
        return false;
    }

    private static boolean isWholeOfAnyLength(String town) {
        // only the newest clause can be long: the ones ahead of it are checked as they are
        int cut = town.lastIndexOf(';');
        String[] ahead = cut < 0 ? new String[0] : town.substring(0, cut).split(";", -1);
        if (ahead.length > 9) {
            return false;
        }
        for (String clause : ahead) {
            if (!isWhole(clause)) {
                return false;
            }
        }
        String last = town.substring(cut + 1);
        return last.length() <= 100 ? isWhole(last)
            : last.startsWith("shun ") ? isCondition(last.substring(5))
            : last.matches("fine (0|[1-9][0-9]?) [^ ]*") && isCondition(last.substring(last.lastIndexOf(' ') + 1));
    }

    /** The FAULT, or -1. */
    private static int faultOf(String tape) {
        if (isWhole(tape)) {
            return -1;
        }
        // what no TOWN goes on with, none does with more behind it: so halves find the first such byte
        int least = 0;
        int most = tape.length();
        while (least < most) {
            int middle = (least + most) / 2;
            if (canGoOn(tape.substring(0, middle + 1))) {
                least = middle + 1;
            } else {
                most = middle;
            }
        }
        return least;
    }

    private static boolean truth(String text, Map<Character, Integer> facts) {
        int deep = 0;
        int and = -1;
        for (int i = 0; i < text.length(); i++) {
            char c = text.charAt(i);
            deep += c == '(' ? 1 : c == ')' ? -1 : 0;
            if (deep == 0 && c == '|') {
                return truth(text.substring(0, i), facts) || truth(text.substring(i + 1), facts);
            }
            if (deep == 0 && c == '&' && and < 0) {
                and = i;
            }
        }
        if (and >= 0) {
            return truth(text.substring(0, and), facts) && truth(text.substring(and + 1), facts);
        }
        if (text.startsWith("!")) {
            return !truth(text.substring(1), facts);
        }
        if (text.startsWith("(")) {
            return truth(text.substring(1, text.length() - 1), facts);
        }
        int fact = facts.get(text.charAt(0));
        int number = Integer.parseInt(text.substring(2));
        switch (text.charAt(1)) {
            case '<': return fact < number;
            case '=': return fact == number;
            default: return fact > number;
        }
    }

    // ---- the model

    private static final class One {
        int kind;
        int v;
        final Set<Integer> known = new TreeSet<>();
        final List<Integer> row = new ArrayList<>();
        boolean heard;
        boolean told;
        int number;
        int day;

        One copy() {
            One one = new One();
            one.kind = kind;
            one.v = v;
            one.known.addAll(known);
            one.row.addAll(row);
            one.heard = heard;
            one.told = told;
            one.number = number;
            one.day = day;
            return one;
        }
    }

    private static final class World {
        String tape = "";
        String town = "";
        int towns;
        int day;
        int fines;
        final List<One> people = new ArrayList<>();
        final List<int[]> seen = new ArrayList<>();
        final List<int[]> book = new ArrayList<>();
        int vain = -1;

        World copy() {
            World world = new World();
            world.tape = tape;
            world.town = town;
            world.towns = towns;
            world.day = day;
            world.fines = fines;
            for (One one : people) {
                world.people.add(one.copy());
            }
            world.seen.addAll(seen);
            world.book.addAll(book);
            return world;
        }

        int last(String word, int without) {
            int n = without;
            for (String clause : town.split(";")) {
                if (clause.startsWith(word + " ")) {
                    n = Integer.parseInt(clause.substring(word.length() + 1));
                }
            }
            return n;
        }

        Map<Character, Integer> facts(int one, int other) {
            Map<Character, Integer> facts = new HashMap<>();
            facts.put('p', one);
            facts.put('o', other);
            facts.put('k', people.get(one).kind);
            facts.put('n', people.get(one).heard ? people.get(one).number : 9);
            facts.put('d', day % 7);
            return facts;
        }

        boolean meets(int one, int other) {
            boolean is = people.get(one).known.contains(other);
            for (String clause : town.split(";")) {
                is &= !clause.startsWith("shun ") || !truth(clause.substring(5), facts(one, other));
            }
            return is;
        }

        int fine(int one) {
            int fine = 0;
            for (String clause : town.split(";")) {
                if (clause.startsWith("fine ")) {
                    String[] parts = clause.split(" ");
                    fine += truth(parts[2], facts(one, 9)) ? Integer.parseInt(parts[1]) : 0;
                }
            }
            return fine;
        }

        List<Integer> may(int one) {
            List<Integer> may = new ArrayList<>();
            for (int other = 0; other < people.size(); other++) {
                if (!people.get(other).heard && meets(one, other)) {
                    may.add(other);
                }
            }
            return may;
        }

        int asked(int one) {
            One teller = people.get(one);
            if (under(teller.kind, 2) && teller.number <= teller.v % 3) {
                return 0;
            }
            return teller.number + (teller.kind == 4 ? 1 : 0);
        }

        Set<Integer> chosen(int one) {
            List<Integer> order = may(one);
            int kind = people.get(one).kind;
            if (under(kind, 1)) {
                order.sort((a, b) -> people.get(b).known.size() - people.get(a).known.size());
            }
            if (under(kind, 3)) {
                order.sort((a, b) -> b - a);
            }
            if (kind == 6) {
                Set<Integer> rowFirst = new LinkedHashSet<>(people.get(one).row);
                rowFirst.retainAll(order);
                rowFirst.addAll(order);
                order = new ArrayList<>(rowFirst);
            }
            return new TreeSet<>(order.subList(0, Math.min(order.size(), asked(one))));
        }

        int go(int chooser, Set<Integer> set) {
            Map<Integer, List<Integer>> numbers = new HashMap<>();
            int more = 0;
            List<Integer> tellers = new ArrayList<>();
            for (int one = 0; one < people.size(); one++) {
                if (people.get(one).heard && !people.get(one).told) {
                    Set<Integer> chosen = one == chooser ? set : chosen(one);
                    tellers.add(one);
                    more += (asked(one) - chosen.size()) * fine(one);
                    for (int other : chosen) {
                        One told = people.get(other);
                        boolean deaf = told.kind == 5 && day % (told.v + 2) == 0;
                        if (!deaf && other != vain) {
                            numbers.computeIfAbsent(other, o -> new ArrayList<>())
                                .add(Math.max(0, people.get(one).number - last("fewer", 1)));
                        }
                    }
                }
            }
            for (int one : tellers) {
                people.get(one).told = true;
            }
            numbers.forEach((other, given) -> {
                given.sort(null);
                people.get(other).heard = true;
                people.get(other).day = day;
                people.get(other).number = given.get(last("law", 0) % 2 == 0 ? 0 : given.size() - 1);
            });
            fines += more;
            day++;
            return numbers.size();
        }

        void begin(int person, int number) {
            for (One one : people) {
                one.heard = false;
                one.told = false;
            }
            people.get(person).heard = true;
            people.get(person).number = number;
            people.get(person).day = day;
            fines = 0;
        }

        World end(int chooser, Set<Integer> set, int inVain) {
            World end = copy();
            end.vain = inVain;
            while (end.people.stream().anyMatch(one -> one.heard && !one.told)) {
                end.go(end.day == day ? chooser : -1, set);
            }
            return end;
        }

        World endOf(int person, int number) {
            World world = copy();
            world.begin(person, number);
            return world.end(-1, null, -1);
        }

        int heardBits() {
            int bits = 0;
            for (int i = 0; i < people.size(); i++) {
                bits += people.get(i).heard ? 1 << i : 0;
            }
            return bits;
        }

        int heard() {
            return (int) people.stream().filter(one -> one.heard).count();
        }
    }

    private static int bits(Iterable<Integer> set) {
        int bits = 0;
        for (int i : set) {
            bits |= 1 << i;
        }
        return bits;
    }

    private static Set<Integer> setOf(int bits) {
        Set<Integer> set = new TreeSet<>();
        for (int i = 0; i < 7; i++) {
            if ((bits & 1 << i) != 0) {
                set.add(i);
            }
        }
        return set;
    }

    private World now = new World();
    private World image = null;
    private List<Integer> trace = new ArrayList<>();
    private int actor;

    private boolean has(int person) {
        return person >= 0 && person < now.people.size();
    }

    private long sum(int k) {
        int fewer = now.last("fewer", 1);
        if (k == 0 || fewer == 0) {
            return k;
        }
        return k + k * sum(Math.max(0, k - fewer));
    }

    private int body(int from, int act, int x) {
        int kind = from;
        String bodies = "0hears=1 0tells=2 0pays=3 1hears=11 2tells=21 3pays=31 4pays=41 5hears=51 6tells=61 ";
        String name = new String[] {"hears", "tells", "pays"}[act];
        while (!bodies.contains(kind + name + "=")) {
            kind = ABOVE[kind];
        }
        int own = now.people.get(actor).kind;
        int v = now.people.get(actor).v;
        String rest = bodies.substring(bodies.indexOf(kind + name + "=") + 2 + name.length());
        int number = Integer.parseInt(rest.substring(0, rest.indexOf(' ')));
        trace.add(number);
        int above = ABOVE[kind];
        switch (number) {
            case 1: return x + actor;
            case 2: return body(own, 0, x) - v;
            case 3: return body(own, 1, x) * 2;
            case 11: return body(above, 0, x * 3);
            case 21: return -body(above, 1, x);
            case 31: return body(above, 2, x) ^ 7;
            case 41:
                int paid = body(above, 2, x - 1);
                return paid + body(own, 0, 2);
            case 51: return body(above, 0, x) ^ actor;
            default: return body(above, 1, x) + v;
        }
    }

    private long model(String call, int a, int b, int c) {
        switch (call) {
            case "feed":
                if (a < 0 || a > 127) {
                    return -2;
                }
                if (now.tape.length() == 100) {
                    return -4;
                }
                now.tape += (char) a;
                return now.tape.length();
            case "town": {
                if (now.towns == 5) {
                    return -4;
                }
                String tape = now.tape;
                now.tape = "";
                int fault = faultOf(tape);
                if (fault >= 0) {
                    return -10 - fault;
                }
                now.town = tape;
                return now.towns++;
            }
            case "person": {
                if (a < 0 || a > 6) {
                    return -1;
                }
                if (b < 0 || b > 9) {
                    return -2;
                }
                if (now.people.size() == 7) {
                    return -4;
                }
                One one = new One();
                one.kind = a;
                one.v = b;
                now.people.add(one);
                return now.people.size() - 1;
            }
            case "of": return of(a, b);
            case "know": {
                if (!has(a) || !has(b)) {
                    return -1;
                }
                if (a == b) {
                    return -2;
                }
                boolean did = now.people.get(a).known.contains(b);
                if (c != 0) {
                    now.people.get(a).known.add(b);
                    now.people.get(b).known.add(a);
                } else {
                    now.people.get(a).known.remove(b);
                    now.people.get(b).known.remove(a);
                }
                return did ? 1 : 0;
            }
            case "row":
                if (!has(a) || (b != -1 && !has(b))) {
                    return -1;
                }
                if (now.people.get(a).kind != 6) {
                    return -3;
                }
                if (b == -1) {
                    now.people.get(a).row.clear();
                    return 0;
                }
                if (now.people.get(a).row.size() == 7) {
                    return -4;
                }
                now.people.get(a).row.add(b);
                return now.people.get(a).row.size();
            case "told":
                switch (a) {
                    case 0: return now.day;
                    case 1: return now.fines;
                    case 2: return now.last("fewer", 1);
                    case 3: return now.last("law", 0) % 2;
                    case 4: return now.heardBits();
                    default: return -1;
                }
            case "begin":
                if (!has(a)) {
                    return -1;
                }
                if (b < 0 || b > 9) {
                    return -2;
                }
                now.begin(a, b);
                return 1;
            case "day": return now.day == 999 ? -3 : now.go(-1, null);
            case "sum": return a < 0 || a > 12 ? Long.MIN_VALUE : sum(a);
            case "enough":
                if (a < 0 || a > 999999999) {
                    return -2;
                }
                for (int k = 0; k <= 12; k++) {
                    if (sum(k) >= a) {
                        return k;
                    }
                }
                return -5;
            case "end": {
                World end = now.end(-1, null, -1);
                switch (a) {
                    case 0: return end.day - now.day;
                    case 1: return end.heard();
                    case 2: return end.fines;
                    case 3: return ((1 << now.people.size()) - 1) ^ end.heardBits();
                    default: return -1;
                }
            }
            default: return modelMore(call, a, b, c);
        }
    }

    private long of(int a, int b) {
        if (!has(a) || b < 0 || b > 11) {
            return -1;
        }
        One one = now.people.get(a);
        switch (b) {
            case 0: return one.kind;
            case 1: return one.v;
            case 2: return one.heard ? 1 : 0;
            case 4: return one.heard && one.told ? 1 : 0;
            case 6: return bits(one.known);
            case 10: return now.fine(a);
            case 11: return one.row.size();
            default:
        }
        if (!one.heard) {
            return -5;
        }
        switch (b) {
            case 3: return one.number;
            case 5: return one.day;
            case 7: return bits(now.may(a));
            case 8: return now.asked(a);
            default: return bits(now.chosen(a));
        }
    }

    private long modelMore(String call, int a, int b, int c) {
        int size = now.people.size();
        switch (call) {
            case "best": {
                if (b < 0 || b > 2) {
                    return -1;
                }
                if (a < 0 || a > 9) {
                    return -2;
                }
                if (size == 0) {
                    return -3;
                }
                int[][] ends = new int[size][];
                for (int i = 0; i < size; i++) {
                    World end = now.endOf(i, a);
                    ends[i] = new int[] {i, end.heard(), end.fines};
                }
                Arrays.sort(ends, (x, y) -> x[1] != y[1] ? y[1] - x[1] : x[2] != y[2] ? x[2] - y[2] : x[0] - y[0]);
                return ends[0][b];
            }
            case "choice":
            case "reach": {
                boolean choice = call.equals("choice");
                if (!has(a) || (choice ? b < 0 || b > 1 : !has(b))) {
                    return -1;
                }
                if (!now.people.get(a).heard || now.people.get(a).told) {
                    return -3;
                }
                List<Integer> may = now.may(a);
                int need = Math.min(may.size(), now.asked(a));
                int set = -5;
                int most = -1;
                for (int bits = 127; bits >= 0; bits--) {
                    Set<Integer> some = setOf(bits);
                    if (some.size() == need && may.containsAll(some)) {
                        World end = now.end(a, some, -1);
                        if (choice ? end.heard() >= most : end.people.get(b).heard) {
                            set = bits;
                            most = end.heard();
                        }
                    }
                }
                return choice && b == 1 ? most : set;
            }
            case "see":
                if (a == -1) {
                    now.seen.clear();
                    return 0;
                }
                if (a < 0 || a >= 1 << size || b < 0 || b > 6) {
                    return -2;
                }
                if (now.seen.size() == 6) {
                    return -4;
                }
                now.seen.add(new int[] {a, b});
                return now.seen.size();
            case "began": {
                if (a < 0 || a > 1) {
                    return -1;
                }
                List<Integer> ways = new ArrayList<>();
                for (int way = 0; way < 10 * size; way++) {
                    boolean could = way % 10 <= 6;
                    for (int[] row : now.seen) {
                        World then = now.copy();
                        then.begin(way / 10, way % 10);
                        for (int i = 0; i < row[1]; i++) {
                            then.go(-1, null);
                        }
                        could &= then.heardBits() == row[0];
                    }
                    if (could) {
                        ways.add(way);
                    }
                }
                return a == 0 ? ways.size() : ways.isEmpty() ? -5 : ways.get(0);
            }
            case "stops": {
                if (!has(a)) {
                    return -1001;
                }
                if (now.people.get(a).heard) {
                    return -1002;
                }
                World free = now.end(-1, null, -1);
                return free.heard() - (free.people.get(a).heard ? 1 : 0) - now.end(-1, null, a).heard();
            }
            case "odds": {
                if (!has(a) || b < 0 || b > 9 || c < 0 || c > 1 || size < 2) {
                    return Long.MIN_VALUE;
                }
                int above = 0;
                for (int i = 0; i < size; i++) {
                    above += i != a && now.endOf(i, b).people.get(a).heard ? 1 : 0;
                }
                return lowest(above, size - 1, c);
            }
            case "mean": {
                if (a < 0 || a > 9 || b < 0 || b > 1 || size < 1) {
                    return Long.MIN_VALUE;
                }
                int above = 0;
                for (int i = 0; i < size; i++) {
                    above += now.endOf(i, a).fines;
                }
                return lowest(above, size, b);
            }
            default: return modelLast(call, a, b, c);
        }
    }

    private static long lowest(int above, int below, int part) {
        int shown = below;
        // the least number below the line that shows the same fraction
        for (int i = below; i >= 1; i--) {
            if ((long) above * i % below == 0) {
                shown = i;
            }
        }
        return part == 1 ? shown : (long) above * shown / below;
    }

    private long modelLast(String call, int a, int b, int c) {
        switch (call) {
            case "book":
                if (a == -1) {
                    now.book.clear();
                    return 0;
                }
                if (!has(a)) {
                    return -1;
                }
                if (b < 0 || b > 999) {
                    return -2;
                }
                if (now.book.size() == 8) {
                    return -4;
                }
                now.book.add(new int[] {a, b});
                return now.book.size();
            case "looked":
                for (int i = 0; i < now.book.size(); i++) {
                    One one = now.people.get(now.book.get(i)[0]);
                    if (!one.heard || one.day != now.book.get(i)[1]) {
                        return i;
                    }
                }
                return -5;
            case "act":
                trace = new ArrayList<>();
                if (!has(a) || b < 0 || b > 2) {
                    return 0;
                }
                actor = a;
                return body(now.people.get(a).kind, b, c);
            case "trace": return a < 0 || a >= Math.min(20, trace.size()) ? -1 : trace.get(a);
            case "as":
                if (!has(a) || b < 0 || b > 6) {
                    return -1;
                }
                return under(now.people.get(a).kind, b) ? now.people.get(a).v : -6;
            case "image":
                image = now.copy();
                return now.people.size();
            case "undo":
                if (image == null) {
                    return -3;
                }
                now = image.copy();
                return now.people.size();
            case "count":
                switch (a) {
                    case 0: return now.people.size();
                    case 1: return now.towns;
                    case 2: return now.seen.size();
                    case 3: return now.book.size();
                    case 4: return now.tape.length();
                    case 5: return trace.size();
                    default: return -1;
                }
            default: throw new IllegalStateException(call);
        }
    }

    // ---- the class

    private static long real(OneFewer x, String call, int a, int b, int c) {
        switch (call) {
            case "feed": return x.feed(a);
            case "town": return x.town();
            case "person": return x.person(a, b);
            case "of": return x.of(a, b);
            case "know": return x.know(a, b, c != 0);
            case "row": return x.row(a, b);
            case "told": return x.told(a);
            case "begin": return x.begin(a, b);
            case "day": return x.day();
            case "sum": return x.sum(a);
            case "enough": return x.enough(a);
            case "end": return x.end(a);
            case "best": return x.best(a, b);
            case "choice": return x.choice(a, b);
            case "reach": return x.reach(a, b);
            case "see": return x.see(a, b);
            case "began": return x.began(a);
            case "stops": return x.stops(a);
            case "odds": return x.odds(a, b, c);
            case "mean": return x.mean(a, b);
            case "book": return x.book(a, b);
            case "looked": return x.looked();
            case "act": return x.act(a, b, c);
            case "trace": return x.trace(a);
            case "as": return x.as(a, b);
            case "image": return x.image();
            case "undo": return x.undo();
            default: return x.count(a);
        }
    }

    // ---- runs

    private static String someCondition(int open) {
        int form = roll(10);
        if (form < 5 || open > 6) {
            return "" + "poknd".charAt(roll(5)) + "<=>".charAt(roll(3)) + (roll(12) == 0 ? roll(100) : roll(8));
        }
        switch (form) {
            case 5: return "!" + someCondition(open + 1);
            case 6: return "(" + someCondition(open + 1) + ")";
            case 7: case 8: return someCondition(open + 1) + "&" + someCondition(open + 1);
            default: return someCondition(open + 1) + "|" + someCondition(open + 1);
        }
    }

    private static String someTown() {
        StringBuilder town = new StringBuilder();
        int clauses = roll(12) == 0 ? 9 + roll(3) : 1 + roll(4);
        for (int i = 0; i < clauses; i++) {
            town.append(i == 0 ? "" : ";");
            switch (clauses > 8 ? 2 + roll(2) : roll(5)) {
                case 0: town.append("shun ").append(someCondition(0)); break;
                case 1: town.append("fine ").append(roll(100)).append(' ').append(someCondition(0)); break;
                case 2: town.append("fewer ").append(roll(4)); break;
                case 3: town.append("law ").append(roll(3)); break;
                default: town.append("fine ").append(1 + roll(9)).append(' ').append("n<9"); break;
            }
        }
        if (roll(3) == 0) {
            int at = roll(town.length());
            char sign = "shunfiewrla 0123456789<=>pokd!&|();".charAt(roll(35));
            switch (roll(4)) {
                case 0: town.setLength(at); break;
                case 1: town.setCharAt(at, sign); break;
                case 2: town.insert(at, sign); break;
                default: town.deleteCharAt(at); break;
            }
        }
        return town.toString();
    }

    private static final String[] ASKS = {"of", "told", "end", "best", "choice", "reach", "began", "stops", "odds", "mean",
        "looked", "trace", "as", "count", "sum", "enough"};
    private static final String[] CHANGES = {"know", "know", "know", "row", "begin", "begin", "day", "day", "day", "see",
        "book", "act", "image", "undo", "person", "feed", "town"};

    private final OneFewer object = new OneFewer();

    private void both(String call, int a, int b, int c) {
        long want = model(call, a, b, c);
        long got = real(object, call, a, b, c);
        if (got != want) {
            wrong++;
            if (wrong < 20) {
                System.out.println("town " + now.town + ": " + call + "(" + a + ", " + b + ", " + c + ") answered " + got
                    + ", due is " + want);
            }
        }
    }

    private void readTown(String town) {
        for (char sign : town.toCharArray()) {
            both("feed", sign, 0, 0);
        }
        both("town", 0, 0, 0);
    }

    private int somePerson() {
        return roll(12) == 0 ? roll(12) - 3 : roll(Math.max(1, now.people.size()));
    }

    private void one(String call) {
        switch (call) {
            case "of": both(call, somePerson(), roll(14) - 1, 0); break;
            case "reach": case "row": case "know": both(call, somePerson(), somePerson(), roll(5)); break;
            case "see": {
                // mostly what could be so, so that some ways are left
                World then = now.copy();
                int days = roll(7);
                if (now.people.isEmpty() || roll(4) == 0) {
                    both(call, roll(10) == 0 ? -1 : roll(140) - 3, roll(9) - 1, 0);
                    break;
                }
                then.begin(roll(2) % now.people.size(), 2);
                for (int i = 0; i < days; i++) {
                    then.go(-1, null);
                }
                both(call, then.heardBits(), days, 0);
                break;
            }
            case "book": {
                int person = somePerson();
                int day = has(person) && roll(4) > 0 ? now.people.get(person).day : roll(4) == 0 ? 998 + roll(4) : roll(6) - 1;
                both(call, person, day, 0);
                break;
            }
            case "begin": both(call, somePerson(), roll(8) == 0 ? roll(13) - 1 : roll(5), 0); break;
            case "person": both(call, roll(9) - 1, roll(12) - 1, 0); break;
            case "act": both(call, somePerson(), roll(5) - 1, roll(4) == 0 ? Integer.MAX_VALUE - roll(5) : roll(50) - 20); break;
            case "enough": both(call, roll(3) == 0 ? roll(Integer.MAX_VALUE) - 5 : roll(500) - 3, 0, 0); break;
            case "sum": both(call, roll(16) - 2, 0, 0); break;
            case "best": case "mean": both(call, roll(12) - 1, roll(5) - 1, 0); break;
            case "odds": both(call, somePerson(), roll(12) - 1, roll(4) - 1); break;
            case "choice": both(call, somePerson(), roll(4) - 1, 0); break;
            case "as": both(call, somePerson(), roll(9) - 1, 0); break;
            case "town":
                if (roll(3) == 0) {
                    readTown(someTown());
                } else if (roll(2) == 0) {
                    both(call, 0, 0, 0);
                }
                break;
            case "feed": both(call, roll(5) == 0 ? roll(140) - 5 : "shun p=1".charAt(roll(8)), 0, 0); break;
            case "stops": case "began": case "end": case "told": case "count": both(call, roll(8) - 1, 0, 0); break;
            default: both(call, roll(9) - 1, 0, 0); break;
        }
    }

    private void run() {
        int people = roll(10) == 0 ? roll(3) : 3 + roll(5);
        for (int i = 0; i < people; i++) {
            both("person", roll(7), roll(10), 0);
        }
        for (int i = 0; i < people; i++) {
            for (int j = 0; j < i; j++) {
                if (roll(2) == 0) {
                    both("know", i, j, 1);
                }
            }
        }
        for (int i = 0; i < people; i++) {
            for (int j = 0; j < 3 && now.people.get(i).kind == 6; j++) {
                both("row", i, roll(people), 0);
            }
        }
        if (roll(4) > 0) {
            readTown(someTown());
        }
        for (int i = 0; i < 40; i++) {
            one(CHANGES[roll(CHANGES.length)]);
            for (int j = 0; j < 4; j++) {
                one(ASKS[roll(ASKS.length)]);
            }
        }
        lookAtAll();
    }

    private void lookAtAll() {
        for (int person = 0; person < now.people.size(); person++) {
            for (int what = 0; what < 12; what++) {
                both("of", person, what, 0);
            }
        }
        for (int what = 0; what < 6; what++) {
            both("told", what, 0, 0);
            both("count", what, 0, 0);
        }
    }

    public static void main(String[] args) {
        for (int i = 0; i < 1500; i++) {
            seed = i * 7919L + 17;
            new ModelTest().run();
        }
        for (int i = 0; i < 1500; i++) {
            seed = i * 104729L + 5;
            ModelTest test = new ModelTest();
            test.readTown(someTown());
            test.both("told", 2, 0, 0);
            test.both("told", 3, 0, 0);
        }
        System.out.println(wrong == 0 ? "all answers are as the model's" : wrong + " answers are not as the model's");
        if (wrong != 0) {
            System.exit(1);
        }
    }
}
