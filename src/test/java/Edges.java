import java.io.IOException;
import java.nio.file.Files;
import java.nio.file.Path;
import java.util.ArrayList;
import java.util.List;
import java.util.function.Supplier;
import java.util.function.ToLongFunction;

/** What the tests of edges have in common: a test for a sentence, calls that change nothing, ready-made objects. */
final class Edges {
    static final int NONE = OneFewer.NONE, BAD = OneFewer.BAD, STATE = OneFewer.STATE, FULL = OneFewer.FULL;
    static final long NO = OneFewer.NO;
    static final int HEARER = 0, BOUND = 1, KEEPER = 2, SAVED = 3, EARLY = 4, DEAF = 5, TOLD = 6;
    /** None, not yet: what the document answers where there is nothing to tell. */
    static final int NEVER = -5;
    static final int MAX = Integer.MAX_VALUE, MIN = Integer.MIN_VALUE;

    private static final String DOCUMENT = document();
    private static String sentence = "";
    private static int tests = 0;
    private static int wrong = 0;

    private Edges() {
    }

    private static String document() {
        try {
            return Files.readString(Path.of("../shared/DOC.md")).replaceAll("\\s+", " ");
        } catch (IOException e) {
            return "";
        }
    }

    /** What the document says of one promise. */
    static String promise(int number) {
        int from = DOCUMENT.indexOf("## Promise " + number + ": ");
        int to = DOCUMENT.indexOf(" ## ", from + 1);
        return from < 0 ? "" : DOCUMENT.substring(from, to < 0 ? DOCUMENT.length() : to);
    }

    /** The test of one sentence of the document. */
    static void test(String words, Runnable calls) {
        testWithin(DOCUMENT, words, calls);
    }

    static void testWithin(String text, String words, Runnable calls) {
        sentence = words;
        tests++;
        if (!text.contains(words)) {
            wrong++;
            System.out.println("the document does not say: " + words);
        }
        calls.run();
    }

    static void due(String call, long got, long want) {
        if (got != want) {
            wrong++;
            System.out.println("\"" + sentence + "\": " + call + " answered " + got + ", due is " + want);
        }
    }

    /** A call answers as is due, and all else is as it would be without it. */
    static void keeps(String name, Supplier<OneFewer> make, ToLongFunction<OneFewer> call, long want) {
        OneFewer x = make.get();
        due(name, call.applyAsLong(x), want);
        if (!picture(x).equals(picture(make.get()))) {
            wrong++;
            System.out.println("\"" + sentence + "\": " + name + " changed something");
        }
    }

    static void end() {
        System.out.println(tests + " sentences, " + (wrong == 0 ? "all as due" : wrong + " answers not as due"));
        if (wrong != 0) {
            System.exit(1);
        }
    }

    // ---- all that can be told of an object, in fewer calls than it may be used for

    static List<Long> picture(OneFewer x) {
        List<Long> picture = new ArrayList<>();
        answers(x, picture);
        hidden(x, picture);
        picture.add((long) x.undo());
        answers(x, picture);
        hidden(x, picture);
        return picture;
    }

    private static void answers(OneFewer x, List<Long> picture) {
        int people = x.count(0);
        for (int what = 0; what < 6; what++) {
            picture.add((long) x.count(what));
        }
        for (int i = 0; i < 8; i++) {
            picture.add((long) x.trace(i));
        }
        for (int what = 0; what < 5; what++) {
            picture.add((long) x.told(what));
        }
        for (int what = 0; what < 4; what++) {
            picture.add((long) x.end(what));
        }
        for (int one = 0; one < people; one++) {
            for (int what = 0; what < 12; what++) {
                picture.add((long) x.of(one, what));
            }
            picture.add((long) x.choice(one, 0));
            picture.add((long) x.stops(one));
        }
        picture.add((long) x.began(0));
        picture.add((long) x.began(1));
        picture.add((long) x.looked());
        picture.add(x.sum(12));
        picture.add(x.mean(3, 0));
    }

    /** What shows by other calls alone: the ROWS' order, then the signs of THE TAPE. */
    private static void hidden(OneFewer x, List<Long> picture) {
        for (int one = 0; one < x.count(0); one++) {
            if (x.of(one, 11) > 0) {
                for (int number = 1; number <= 3; number++) {
                    x.begin(one, number);
                    picture.add((long) x.of(one, 9));
                }
            }
        }
        x.feed('1');
        picture.add((long) x.town());
        picture.add((long) x.told(2));
        picture.add((long) x.told(3));
    }

    // ---- objects

    static OneFewer feed(OneFewer x, String text) {
        for (int i = 0; i < text.length(); i++) {
            x.feed(text.charAt(i));
        }
        return x;
    }

    static int town(OneFewer x, String text) {
        return feed(x, text).town();
    }

    /** PEOPLE of these KINDS, all v 0, none of whom KNOW each other. */
    static OneFewer strangers(int... kinds) {
        OneFewer x = new OneFewer();
        for (int kind : kinds) {
            x.person(kind, 0);
        }
        return x;
    }

    /** PEOPLE of these KINDS, all v 0, of whom all KNOW each other. */
    static OneFewer friends(int... kinds) {
        OneFewer x = strangers(kinds);
        for (int one = 0; one < kinds.length; one++) {
            for (int other = 0; other < one; other++) {
                x.know(one, other, true);
            }
        }
        return x;
    }

    /** HEARERS who KNOW only the one ahead and the one behind. */
    static OneFewer chain(int size) {
        OneFewer x = strangers(new int[size]);
        for (int one = 1; one < size; one++) {
            x.know(one, one - 1, true);
        }
        return x;
    }

    /** A HEARER with number 0 who KNOWS all others, HEARERS too, who KNOW only it. */
    static OneFewer star(int size) {
        OneFewer x = strangers(new int[size]);
        for (int one = 1; one < size; one++) {
            x.know(one, 0, true);
        }
        return x;
    }

    /** Something of everything, and an IMAGE of a time before: 0 has TOLD it, 1 and 2 have yet to, 3, 4 and 5 have not HEARD it. */
    static OneFewer rich() {
        OneFewer x = new OneFewer();
        int[] kinds = {HEARER, BOUND, TOLD, SAVED, EARLY, DEAF};
        for (int i = 0; i < kinds.length; i++) {
            x.person(kinds[i], i + 2);
        }
        x.know(0, 1, true);
        x.know(0, 2, true);
        x.know(1, 3, true);
        x.know(2, 3, true);
        x.know(2, 4, true);
        x.know(2, 5, true);
        x.row(2, 5);
        x.row(2, 3);
        town(x, "fine 3 p=0;law 1");
        x.see(1, 0);
        x.see(7, 1);
        x.book(0, 0);
        x.book(1, 1);
        x.begin(0, 3);
        feed(x, "fewe");
        x.image();
        feed(x, "r 1");
        x.day();
        x.act(4, 2, 5);
        return x;
    }
}
