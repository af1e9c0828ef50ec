/**
 * Every call with every combination of numbers on either side of its bounds, and the farthest ints. The refusals that a
 * promise tells stand here in its order, each with the numbers that it fits: due is the first that fits, and that
 * nothing changes but how many there were; where none fits, the call is not refused and none is counted.
 */
public final class RefusalTests extends NetTest {

    /** A call by its arguments. */
    private interface Asked {
        long on(NetShapes x, int[] v);
    }

    private interface Fits {
        boolean to(int[] v);
    }

    private record Refusal(int number, Fits fits) {
    }

    /** A net by what it was told, so that what is due can be said without asking the object. */
    private static final class Start {
        private final int n;
        private final int heldSheets;
        /** First post, second post, kind, time; in the order of their numbers. */
        private final int[][] links;

        Start(int n, int heldSheets, int[][] links) {
            this.n = n;
            this.heldSheets = heldSheets;
            this.links = links;
        }

        /** Each sheet holds one link less than the one below it, so that none is taken for another. */
        NetShapes make() {
            NetShapes x = new NetShapes();
            x.posts(n);
            for (int[] link : links) {
                x.link(link[0], link[1], link[2], link[3]);
            }
            for (int sheet = 0; sheet < SHEETS; sheet++) {
                if (holds(sheet)) {
                    x.keep(sheet);
                    if (sheet < links.length) {
                        x.cut(links[sheet][0], links[sheet][1]);
                    }
                }
            }
            for (int[] link : links) {
                x.link(link[0], link[1], link[2], link[3]);
            }
            x.seed(-7654321);
            return x;
        }

        boolean holds(int sheet) {
            return sheet >= 0 && sheet < SHEETS && (heldSheets >> sheet & 1) == 1;
        }

        boolean post(int a) {
            return a >= 0 && a < n;
        }

        boolean two(int a, int b) {
            return post(a) && post(b) && a != b;
        }

        boolean three(int a, int b, int c) {
            return two(a, b) && two(b, c) && a != c;
        }

        boolean link(int i) {
            return i >= 0 && i < links.length;
        }

        boolean linked(int a, int b) {
            for (int[] link : links) {
                if (link[0] == a && link[1] == b) {
                    return true;
                }
            }
            return false;
        }

        boolean maySwap(int i, int j) {
            int[] one = links[i];
            int[] other = links[j];
            return one[0] != other[0] && one[1] != other[1] && one[0] != other[1] && other[0] != one[1]
                && !linked(one[0], other[1]) && !linked(other[0], one[1]);
        }

        int[] posts() {
            return new int[] {LOW, -1, 0, 1, n - 1, n, HIGH};
        }

        int[] linkNumbers() {
            int count = links.length;
            return new int[] {LOW, -1, 0, 1, count - 1, count, count + 1, HIGH};
        }

        int[] sets() {
            int next = 1 << n;
            return new int[] {LOW, LOW + 7, -1, 0, 3, next / 2, next / 2 + 1, 7, next / 2 + 3, next - 1, next, next + 3,
                next + 7, HIGH};
        }
    }

    private static final int[] WHATS_OF_TWO = {LOW, -1, 0, 1, 2, HIGH};
    private static final int[] WHATS_OF_THREE = {LOW, -1, 0, 2, 3, HIGH};
    private static final int[] WHATS_OF_FOUR = {LOW, -1, 0, 3, 4, HIGH};
    private static final int[] KINDS_OF_FOURS = {LOW, -1, 0, 5, 6, HIGH};
    private static final int[] SHAPES = {LOW, -1, 0, 15, 16, HIGH};
    private static final int[] SHEET_NUMBERS = {LOW, -1, 0, 1, 2, 3, 4, HIGH};
    private static final int[] SIZES = {LOW, -1, 0, 2, 3, 16, 17, HIGH};
    private static final int[] TIMES = {LOW, -1, 0, 1000, 1001, HIGH};
    private static final int[] MIXINGS = {LOW, -1, 0, 1, 500, 501, HIGH};
    private static final int[] LENGTHS = {LOW, -1, 0, 60, 61, HIGH};
    private static final int[] PARTS = {LOW, -1, 0, 1, 7, 8, HIGH};
    private static final int[] ANY = {LOW, LOW + 1, -1000, -1, 0, 1, 1000, HIGH - 1, HIGH};

    public static void main(String[] args) {
        Start[] starts = {
            new Start(3, 0, new int[][] {}),
            new Start(4, 2, new int[][] {{3, 0, 1, 0}}),
            new Start(5, 5, new int[][] {{0, 1, 0, 7}, {1, 2, 1, 8}, {2, 0, 0, 9}, {3, 4, 1, 1000}}),
            new Start(16, 15, new int[][] {{0, 1, 1, 0}, {0, 15, 0, 1}, {1, 0, 1, 5}, {3, 2, 0, 9}, {7, 8, 1, 1000},
                {14, 15, 0, 0}, {15, 0, 0, 999}, {15, 14, 1, 2}})};
        for (Start start : starts) {
            linksAndPosts(start);
            threes(start);
            swapsAndMeans(start);
            timesAndSigns(start);
            walksAndSamples(start);
            sheets(start);
            neverRefused(start);
        }
        end();
    }

    private static void linksAndPosts(Start s) {
        every(s, "posts", (x, v) -> x.posts(v[0]), values(SIZES), no(-4, v -> v[0] < 3), no(-6, v -> v[0] > 16));
        every(s, "link", (x, v) -> x.link(v[0], v[1], v[2], v[3]),
            values(s.posts(), s.posts(), WHATS_OF_TWO, TIMES), no(-1, v -> !s.two(v[0], v[1])),
            no(-4, v -> v[2] < 0 || v[3] < 0), no(-6, v -> v[2] > 1 || v[3] > 1000));
        every(s, "cut", (x, v) -> x.cut(v[0], v[1]), values(s.posts(), s.posts()),
            no(-1, v -> !s.two(v[0], v[1])), no(-3, v -> !s.linked(v[0], v[1])));
        every(s, "linkOf", (x, v) -> x.linkOf(v[0], v[1], v[2]), values(s.posts(), s.posts(), WHATS_OF_THREE),
            no(-1, v -> !s.two(v[0], v[1])), no(-2, v -> v[2] < 0 || v[2] > 2));
        every(s, "at", (x, v) -> x.at(v[0], v[1]), values(s.linkNumbers(), WHATS_OF_TWO),
            no(-1, v -> !s.link(v[0])), no(-2, v -> noPart(v[1])));
    }

    private static void threes(Start s) {
        every(s, "shape", (x, v) -> x.shape(v[0], v[1], v[2]), values(s.posts(), s.posts(), s.posts()),
            no(-1, v -> !s.three(v[0], v[1], v[2])));
        every(s, "shapeOf", (x, v) -> x.shapeOf(v[0], v[1]), values(SHAPES, WHATS_OF_FOUR),
            no(-1, v -> noShape(v[0])), no(-2, v -> v[1] < 0 || v[1] > 3));
        every(s, "place", (x, v) -> x.place(v[0], v[1], v[2]), values(s.posts(), s.posts(), s.posts()),
            no(-1, v -> !s.three(v[0], v[1], v[2])));
        every(s, "count", (x, v) -> x.count(v[0]), values(SHAPES), no(-1, v -> noShape(v[0])));
        every(s, "countOf", (x, v) -> x.countOf(v[0], v[1], v[2]), values(s.posts(), SHAPES, WHATS_OF_THREE),
            no(-1, v -> !s.post(v[0]) || noShape(v[1])), no(-2, v -> v[2] < 0 || v[2] > 2));
        every(s, "role", (x, v) -> x.role(v[0]), values(s.posts()), no(-1, v -> !s.post(v[0])));
        every(s, "fours", (x, v) -> x.fours(v[0]), values(KINDS_OF_FOURS), no(-2, v -> v[0] < 0 || v[0] > 5));
    }

    private static void swapsAndMeans(Start s) {
        every(s, "swap", (x, v) -> x.swap(v[0], v[1]), values(s.linkNumbers(), s.linkNumbers()),
            no(-1, v -> !s.link(v[0]) || !s.link(v[1]) || v[0] == v[1]), no(-3, v -> !s.maySwap(v[0], v[1])));
        every(s, "mix", (x, v) -> x.mix(v[0]), values(MIXINGS), no(-4, v -> v[0] < 0), no(-6, v -> v[0] > 500),
            no(-3, v -> s.links.length < 2));
        every(s, "mean", (x, v) -> x.mean(v[0], v[1]), values(SHAPES, WHATS_OF_TWO),
            no(-1, v -> noShape(v[0])), no(-2, v -> noPart(v[1])));
        every(s, "more", (x, v) -> x.more(v[0]), values(SHAPES), no(-1, v -> noShape(v[0])));
    }

    private static void timesAndSigns(Start s) {
        every(s, "chains", (x, v) -> x.chains(v[0], v[1]), values(TIMES, WHATS_OF_TWO), no(-2, v -> noPart(v[1])),
            no(-4, v -> v[0] < 0), no(-6, v -> v[0] > 1000));
        every(s, "burst", (x, v) -> x.burst(v[0], v[1]), values(s.posts(), TIMES), no(-1, v -> !s.post(v[0])),
            no(-4, v -> v[1] < 0), no(-6, v -> v[1] > 1000));
        every(s, "signs", (x, v) -> x.signs(v[0]), values(WHATS_OF_TWO), no(-2, v -> noPart(v[0])));
        every(s, "sides", (x, v) -> x.sides(v[0]), values(WHATS_OF_TWO), no(-2, v -> noPart(v[0])));
    }

    private static void walksAndSamples(Start s) {
        every(s, "walks", (x, v) -> x.walks(v[0], v[1], v[2], v[3]), values(s.posts(), s.posts(), LENGTHS, PARTS),
            no(-1, v -> !s.post(v[0]) || !s.post(v[1])), no(-4, v -> v[2] < 0), no(-6, v -> v[2] > 60));
        every(s, "sample", (x, v) -> x.sample(v[0], v[1], v[2]), values(s.sets(), SHAPES, WHATS_OF_TWO),
            no(-1, v -> noShape(v[1]) || v[0] < 0 || v[0] >= 1 << s.n), no(-3, v -> Integer.bitCount(v[0]) < 3),
            no(-2, v -> noPart(v[2])));
    }

    private static void sheets(Start s) {
        every(s, "keep", (x, v) -> x.keep(v[0]), values(SHEET_NUMBERS), no(-1, v -> noSheet(v[0])));
        every(s, "take", (x, v) -> x.take(v[0]), values(SHEET_NUMBERS),
            no(-1, v -> noSheet(v[0])), no(-5, v -> !s.holds(v[0])));
        every(s, "lose", (x, v) -> x.lose(v[0]), values(SHEET_NUMBERS),
            no(-1, v -> noSheet(v[0])), no(-5, v -> !s.holds(v[0])));
        every(s, "far", (x, v) -> x.far(v[0]), values(SHEET_NUMBERS),
            no(-1, v -> noSheet(v[0])), no(-5, v -> !s.holds(v[0])));
    }

    private static void neverRefused(Start s) {
        every(s, "roles", (x, v) -> x.roles(), values(new int[] {0}));
        every(s, "seed", (x, v) -> x.seed(v[0]), values(ANY));
        every(s, "status", (x, v) -> x.status(v[0]),
            values(new int[] {LOW, -1, 0, 1, 2, 3, 4, 5, 6, 7, 10, 11, 12, 13, 14, 15, 16, 17, HIGH}));
    }

    private static boolean noPart(int part) {
        return part != 0 && part != 1;
    }

    private static boolean noShape(int shape) {
        return shape < 0 || shape > 15;
    }

    private static boolean noSheet(int sheet) {
        return sheet < 0 || sheet > 3;
    }

    private static Refusal no(int number, Fits fits) {
        return new Refusal(number, fits);
    }

    private static int[][] values(int[]... ofEach) {
        return ofEach;
    }

    /** Counts through all combinations: each argument by its own list of numbers. */
    private static void every(Start start, String name, Asked asked, int[][] values, Refusal... order) {
        under(name + " of " + start.n + " posts");
        int[] at = new int[values.length];
        int moved = 0;
        while (moved < values.length) {
            int[] v = new int[values.length];
            for (int i = 0; i < v.length; i++) {
                v[i] = values[i][at[i]];
            }
            one(start, name, asked, v, order);
            for (moved = 0; moved < at.length; moved++) {
                at[moved] = (at[moved] + 1) % values[moved].length;
                if (at[moved] != 0) {
                    break;
                }
            }
        }
    }

    private static void one(Start start, String name, Asked asked, int[] v, Refusal... order) {
        String call = name + java.util.Arrays.toString(v);
        for (Refusal refusal : order) {
            if (refusal.fits().to(v)) {
                // Only more may answer below 0 otherwise: its refusals are told another way.
                long answer = name.equals("more") ? 2000000000L - refusal.number() : refusal.number();
                refusedOn(start::make, refusal.number(), answer, call, x -> asked.on(x, v));
                return;
            }
        }
        NetShapes x = start.make();
        int[] counts = refusals(x);
        long answer = asked.on(x, v);
        holds(call + " is not refused but answers " + answer, mayAnswer(name, answer));
        countsAre("after " + call, x, counts);
    }

    private static boolean mayAnswer(String name, long answer) {
        switch (name) {
            case "seed":
                return answer == -7654321;
            case "more":
                return answer >= -1 && answer <= 1;
            case "walks":
            case "status":
                return answer >= 0 || answer == -9;
            default:
                return answer >= 0;
        }
    }
}
