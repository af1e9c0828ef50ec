import java.util.ArrayList;
import java.util.List;

/** What the tests of NetShapes share: nets to begin with, what is due, and a look at all that an object holds. */
abstract class NetTest {
    static final int LOW = Integer.MIN_VALUE;
    static final int HIGH = Integer.MAX_VALUE;
    static final int SHEETS = 4;

    private static String heading = "";
    private static int checks = 0;
    private static int wrong = 0;

    interface Call {
        long on(NetShapes x);
    }

    /** Makes the same net each time, so that what a call changed can be told from one on which it was not made. */
    interface Maker {
        NetShapes make();
    }

    /** What the checks from here on are about: a promise, or a sentence of the document. */
    static void under(String text) {
        heading = text;
    }

    static void due(String what, long got, long want) {
        dueText(what, Long.toString(got), Long.toString(want));
    }

    static void dueText(String what, String got, String want) {
        checks++;
        if (!got.equals(want)) {
            wrong++;
            System.out.println(heading + ": " + what + " answered " + got + ", due is " + want);
        }
    }

    static void holds(String what, boolean got) {
        dueText(what, Boolean.toString(got), "true");
    }

    /** The last line of every main method. */
    static void end() {
        System.out.println(checks + " checks, " + wrong + " answers are not as due");
        if (wrong != 0) {
            System.exit(1);
        }
    }

    /** A net of n posts with links told as first post, second post, kind, time. */
    static NetShapes net(int n, int... links) {
        NetShapes x = new NetShapes();
        x.posts(n);
        for (int i = 0; i + 3 < links.length; i += 4) {
            x.link(links[i], links[i + 1], links[i + 2], links[i + 3]);
        }
        return x;
    }

    /** Links of kind 0 and time 0, told as first post, second post. */
    static NetShapes plain(int n, int... links) {
        NetShapes x = new NetShapes();
        x.posts(n);
        for (int i = 0; i + 1 < links.length; i += 2) {
            x.link(links[i], links[i + 1], 0, 0);
        }
        return x;
    }

    /** All the links that there can be, of one kind, at time 0. */
    static NetShapes full(int n, int kind) {
        NetShapes x = new NetShapes();
        x.posts(n);
        for (int a = 0; a < n; a++) {
            for (int b = 0; b < n; b++) {
                if (a != b) {
                    x.link(a, b, kind, 0);
                }
            }
        }
        return x;
    }

    static NetShapes full(int n) {
        return full(n, 0);
    }

    /** A link from each post to each one below it. */
    static NetShapes downward(int n, int kind) {
        NetShapes x = new NetShapes();
        x.posts(n);
        for (int a = 0; a < n; a++) {
            for (int b = 0; b < a; b++) {
                x.link(a, b, kind, 0);
            }
        }
        return x;
    }

    /** 0 to 1, 1 to 2, 2 to 0, 3 to 4 of five posts; sheet 0 holds it, sheets 1 to 3 are missing; the seed is 77. */
    static NetShapes fixture() {
        NetShapes x = net(5, 0, 1, 0, 7, 1, 2, 1, 8, 2, 0, 0, 9, 3, 4, 1, 1000);
        x.keep(0);
        x.seed(77);
        return x;
    }

    /** How many refusals -1 .. -6 there were, at 1 .. 6. */
    static int[] refusals(NetShapes x) {
        int[] counts = new int[7];
        for (int i = 1; i <= 6; i++) {
            counts[i] = x.status(10 + i);
        }
        return counts;
    }

    /** All that an object holds beside how many refusals there were; the object is spent then. */
    static String spend(NetShapes x) {
        List<String> seen = new ArrayList<>();
        seen.add("net " + netOf(x));
        seen.add("seed " + x.seed(0));
        for (int sheet = 0; sheet < SHEETS; sheet++) {
            seen.add("sheet " + sheet + " " + (x.take(sheet) == -5 ? "missing" : netOf(x)));
        }
        return seen.toString();
    }

    /** Posts and links of the net as it is now. */
    static String netOf(NetShapes x) {
        StringBuilder seen = new StringBuilder();
        seen.append(x.status(0)).append(" posts");
        int links = x.status(1);
        for (int i = 0; i < links; i++) {
            int a = x.at(i, 0);
            int b = x.at(i, 1);
            seen.append(", ").append(a).append(" to ").append(b);
            seen.append(" (").append(x.linkOf(a, b, 1)).append(' ').append(x.linkOf(a, b, 2)).append(')');
        }
        return seen.toString();
    }

    static void refused(int number, String what, Call call) {
        refusedOn(NetTest::fixture, number, number, what, call);
    }

    /** The call is refused with this number, told by this answer, and nothing changes but how many there were. */
    static void refusedOn(Maker maker, int number, long answer, String what, Call call) {
        NetShapes x = maker.make();
        int[] counts = refusals(x);
        due(what, call.on(x), answer);
        counts[-number]++;
        countsAre("after " + what, x, counts);
        dueText("what is held after " + what, spend(x), spend(maker.make()));
    }

    static void countsAre(String when, NetShapes x, int[] counts) {
        int[] now = refusals(x);
        for (int i = 1; i <= 6; i++) {
            due("refusals -" + i + " " + when, now[i], counts[i]);
        }
    }
}
