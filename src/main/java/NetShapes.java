/**
 * Small shapes in nets, as the document of NetShapes promises them.
 *
 * Every row that a call needs is made once, in the constructor, and used again: no call makes an object.
 */
public final class NetShapes {

    private static final int LEAST_POSTS = 3;
    private static final int MOST_POSTS = 16;
    private static final int POSTS_AT_FIRST = 6;
    private static final int MOST_TIME = 1000;
    private static final int MOST_MIXING = 500;
    private static final int MOST_LENGTH = 60;
    private static final int SHAPES = 16;
    private static final int PLACES = 3;
    private static final int FOUR_KINDS = 6;
    private static final int SHEETS = 4;

    private static final int NOBODY = -1;
    private static final int OTHER = -2;
    private static final int STATE = -3;
    private static final int BELOW = -4;
    private static final int MISSING = -5;
    private static final int ROOM = -6;
    private static final int NONE_SUCH = -9;
    private static final int REFUSAL_NUMBERS = 6;
    private static final int FIRST_REFUSAL_WHAT = 11;
    /** Where an answer may be below 0 itself, a refusal is told as this less its number. */
    private static final int SIGNED_REFUSAL_BASE = 2000000000;

    private final Net net = new Net(POSTS_AT_FIRST);
    private final Net[] sheets = new Net[SHEETS];
    private final boolean[] held = new boolean[SHEETS];
    private final int[] refusals = new int[REFUSAL_NUMBERS];
    private final Census census = new Census(new ShapeTable());
    private final Fraction fraction = new Fraction();
    private final Lot lot = new Lot();
    private final SideSearch sideSearch = new SideSearch();
    private final WalkRows walkRows = new WalkRows();

    public NetShapes() {
        for (int sheet = 0; sheet < SHEETS; sheet++) {
            sheets[sheet] = new Net(POSTS_AT_FIRST);
        }
    }

    public int posts(int n) {
        if (n < LEAST_POSTS) {
            return refuse(BELOW);
        }
        if (n > MOST_POSTS) {
            return refuse(ROOM);
        }
        int before = net.size;
        net.startAnew(n);
        return before;
    }

    public int link(int a, int b, int kind, int time) {
        if (!isTwo(a, b)) {
            return refuse(NOBODY);
        }
        if (kind < 0 || time < 0) {
            return refuse(BELOW);
        }
        if (kind > 1 || time > MOST_TIME) {
            return refuse(ROOM);
        }
        int answer = net.has(a, b) ? 0 : 1;
        net.put(a, b, kind, time);
        return answer;
    }

    public int cut(int a, int b) {
        if (!isTwo(a, b)) {
            return refuse(NOBODY);
        }
        if (!net.has(a, b)) {
            return refuse(STATE);
        }
        net.drop(a, b);
        return 1;
    }

    public int linkOf(int a, int b, int what) {
        if (!isTwo(a, b)) {
            return refuse(NOBODY);
        }
        switch (what) {
            case 0:
                return net.bit(a, b);
            case 1:
                return net.kindOf(a, b);
            case 2:
                return net.timeOf(a, b);
            default:
                return refuse(OTHER);
        }
    }

    public int at(int i, int what) {
        if (!isLink(i)) {
            return refuse(NOBODY);
        }
        if (what != 0 && what != 1) {
            return refuse(OTHER);
        }
        int spot = net.spotOf(i);
        return what == 0 ? Net.fromOf(spot) : Net.toOf(spot);
    }

    public int shape(int a, int b, int c) {
        if (!isThree(a, b, c)) {
            return refuse(NOBODY);
        }
        return census.table.shapeOfCode[net.codeOf(a, b, c)];
    }

    public int shapeOf(int shape, int what) {
        if (!isShape(shape)) {
            return refuse(NOBODY);
        }
        switch (what) {
            case 0:
                return census.table.leastCode[shape];
            case 1:
                return census.table.codeCount[shape];
            case 2:
                return census.table.linkCount(shape);
            case 3:
                return census.table.placeCount[shape];
            default:
                return refuse(OTHER);
        }
    }

    public int place(int a, int b, int c) {
        if (!isThree(a, b, c)) {
            return refuse(NOBODY);
        }
        return census.table.placeOf(net.codeOf(a, b, c), 0);
    }

    public int count(int shape) {
        if (!isShape(shape)) {
            return refuse(NOBODY);
        }
        return census.threesOf(net, shape, net.everyPost());
    }

    public int countOf(int post, int shape, int place) {
        if (!isPost(post) || !isShape(shape)) {
            return refuse(NOBODY);
        }
        if (place < 0 || place >= PLACES) {
            return refuse(OTHER);
        }
        census.countByPosts(net);
        return census.postCount(post, shape, place);
    }

    public int role(int post) {
        if (!isPost(post)) {
            return refuse(NOBODY);
        }
        census.findRoles(net);
        return census.roleOfPost[post];
    }

    public int roles() {
        return census.findRoles(net);
    }

    public int fours(int kind) {
        if (kind < 0 || kind >= FOUR_KINDS) {
            return refuse(OTHER);
        }
        return Fours.ofKind(net, kind);
    }

    public int seed(int s) {
        int before = lot.seedNow;
        lot.seedNow = s;
        return before;
    }

    public int swap(int i, int j) {
        if (!isLink(i) || !isLink(j) || i == j) {
            return refuse(NOBODY);
        }
        if (!net.exchange(net.spotOf(i), net.spotOf(j))) {
            return refuse(STATE);
        }
        return 1;
    }

    public int mix(int n) {
        if (n < 0) {
            return refuse(BELOW);
        }
        if (n > MOST_MIXING) {
            return refuse(ROOM);
        }
        if (net.linkCount() < 2) {
            return refuse(STATE);
        }
        return lot.mixLinks(net, n);
    }

    public long mean(int shape, int part) {
        if (!isShape(shape)) {
            return refuse(NOBODY);
        }
        if (part != 0 && part != 1) {
            return refuse(OTHER);
        }
        findMean(shape);
        return part == 0 ? fraction.above : fraction.below;
    }

    public int more(int shape) {
        if (!isShape(shape)) {
            return SIGNED_REFUSAL_BASE - refuse(NOBODY);
        }
        findMean(shape);
        long found = census.threesOf(net, shape, net.everyPost());
        return Long.compare(found * fraction.below, fraction.above);
    }

    public int chains(int w, int what) {
        if (what != 0 && what != 1) {
            return refuse(OTHER);
        }
        if (w < 0) {
            return refuse(BELOW);
        }
        if (w > MOST_TIME) {
            return refuse(ROOM);
        }
        return what == 0 ? Times.backChains(net, w) : Times.onChains(net, w);
    }

    public int burst(int post, int w) {
        if (!isPost(post)) {
            return refuse(NOBODY);
        }
        if (w < 0) {
            return refuse(BELOW);
        }
        if (w > MOST_TIME) {
            return refuse(ROOM);
        }
        return Times.longestBurst(net, post, w);
    }

    public int signs(int what) {
        if (what != 0 && what != 1) {
            return refuse(OTHER);
        }
        return Signs.closedThrees(net, what == 1);
    }

    public int sides(int what) {
        if (what != 0 && what != 1) {
            return refuse(OTHER);
        }
        sideSearch.tryAll(net);
        return what == 0 ? sideSearch.leastTurned : sideSearch.leastSet;
    }

    public int walks(int a, int b, int k, int i) {
        if (!isPost(a) || !isPost(b)) {
            return refuse(NOBODY);
        }
        if (k < 0) {
            return refuse(BELOW);
        }
        if (k > MOST_LENGTH) {
            return refuse(ROOM);
        }
        walkRows.countFrom(net, a, k);
        if (i < 0 || i >= walkRows.partsOf(b)) {
            return NONE_SUCH;
        }
        return walkRows.partOf(b, i);
    }

    public int sample(int set, int shape, int part) {
        if (!isShape(shape) || (set & ~net.everyPost()) != 0) {
            return refuse(NOBODY);
        }
        int size = Integer.bitCount(set);
        if (size < 3) {
            return refuse(STATE);
        }
        if (part != 0 && part != 1) {
            return refuse(OTHER);
        }
        long found = census.threesOf(net, shape, set);
        fraction.become(found * threesAmong(net.size), threesAmong(size));
        return (int) (part == 0 ? fraction.above : fraction.below);
    }

    public int keep(int sheet) {
        if (!isSheet(sheet)) {
            return refuse(NOBODY);
        }
        sheets[sheet].becomeLike(net);
        held[sheet] = true;
        return net.linkCount();
    }

    public int take(int sheet) {
        if (!isSheet(sheet)) {
            return refuse(NOBODY);
        }
        if (!held[sheet]) {
            return refuse(MISSING);
        }
        net.becomeLike(sheets[sheet]);
        return net.linkCount();
    }

    public int lose(int sheet) {
        if (!isSheet(sheet)) {
            return refuse(NOBODY);
        }
        if (!held[sheet]) {
            return refuse(MISSING);
        }
        held[sheet] = false;
        return 1;
    }

    public int far(int sheet) {
        if (!isSheet(sheet)) {
            return refuse(NOBODY);
        }
        if (!held[sheet]) {
            return refuse(MISSING);
        }
        return census.difference(net, sheets[sheet]);
    }

    public int status(int what) {
        switch (what) {
            case 0:
                return net.size;
            case 1:
                return net.linkCount();
            case 2:
                return net.againstCount();
            case 3:
                return net.besideCount();
            case 4:
                return heldCount();
            case 5:
                return Integer.bitCount(net.out[0]);
            case 6:
                return Integer.bitCount(net.into(0));
            default:
                return refusalCount(what);
        }
    }

    private int refuse(int number) {
        int index = -1 - number;
        if (index >= 0 && index < REFUSAL_NUMBERS) {
            refusals[index]++;
        }
        return number;
    }

    private int refusalCount(int what) {
        if (what < FIRST_REFUSAL_WHAT || what >= FIRST_REFUSAL_WHAT + REFUSAL_NUMBERS) {
            return NONE_SUCH;
        }
        return refusals[what - FIRST_REFUSAL_WHAT];
    }

    private boolean isPost(int post) {
        return post >= 0 && post < net.size;
    }

    private boolean isTwo(int a, int b) {
        return isPost(a) && isPost(b) && a != b;
    }

    private boolean isThree(int a, int b, int c) {
        return isTwo(a, b) && isTwo(a, c) && b != c;
    }

    private boolean isLink(int number) {
        return number >= 0 && number < net.linkCount();
    }

    private static boolean isShape(int shape) {
        return shape >= 0 && shape < SHAPES;
    }

    private static boolean isSheet(int sheet) {
        return sheet >= 0 && sheet < SHEETS;
    }

    private int heldCount() {
        int found = 0;
        for (int sheet = 0; sheet < SHEETS; sheet++) {
            if (held[sheet]) {
                found++;
            }
        }
        return found;
    }

    private static long threesAmong(int posts) {
        return (long) posts * (posts - 1) * (posts - 2) / 6;
    }

    /**
     * Links that fall by lot upon all spots take just the k spots of a code, and none of its other 6 - k, with a chance
     * that is a ratio of two binomials. Without the factors that both have, it is k factors down from the number of
     * links, times 6 - k factors down from the number of free spots, by 6 factors down from the number of spots. There
     * are 240 spots at most, so that even times 560 threes and 6 codes all stays within a long.
     */
    private void findMean(int shape) {
        int spots = net.size * (net.size - 1);
        int links = net.linkCount();
        int inShape = census.table.linkCount(shape);
        long above = threesAmong(net.size) * census.table.codeCount[shape];
        above *= factorsDown(links, inShape);
        above *= factorsDown(spots - links, 6 - inShape);
        fraction.become(above, factorsDown(spots, 6));
    }

    /** number times (number - 1) times (number - 2) .. : so many factors; 0 if they go down to 0. */
    private static long factorsDown(int number, int factors) {
        long product = 1;
        for (int i = 0; i < factors; i++) {
            product *= Math.max(0, number - i);
        }
        return product;
    }

    /** Posts and links; the posts that a post has links to are bits of one int, and so are those of kind 1. */
    private static final class Net {
        private int size;
        private final int[] out = new int[MOST_POSTS];
        private final int[] outAgainst = new int[MOST_POSTS];
        private final int[] times = new int[MOST_POSTS * MOST_POSTS];

        Net(int posts) {
            size = posts;
        }

        /** The spot of a link is one number for both of its posts. */
        static int spot(int a, int b) {
            return a * MOST_POSTS + b;
        }

        static int fromOf(int spot) {
            return spot / MOST_POSTS;
        }

        static int toOf(int spot) {
            return spot % MOST_POSTS;
        }

        void startAnew(int posts) {
            size = posts;
            for (int a = 0; a < MOST_POSTS; a++) {
                out[a] = 0;
                outAgainst[a] = 0;
            }
        }

        void becomeLike(Net other) {
            size = other.size;
            System.arraycopy(other.out, 0, out, 0, MOST_POSTS);
            System.arraycopy(other.outAgainst, 0, outAgainst, 0, MOST_POSTS);
            System.arraycopy(other.times, 0, times, 0, MOST_POSTS * MOST_POSTS);
        }

        int bit(int a, int b) {
            return out[a] >> b & 1;
        }

        boolean has(int a, int b) {
            return bit(a, b) == 1;
        }

        int kindOf(int a, int b) {
            return outAgainst[a] >> b & 1;
        }

        int timeOf(int a, int b) {
            return has(a, b) ? times[spot(a, b)] : 0;
        }

        void put(int a, int b, int kind, int time) {
            drop(a, b);
            out[a] |= 1 << b;
            outAgainst[a] |= kind << b;
            times[spot(a, b)] = time;
        }

        void drop(int a, int b) {
            out[a] &= ~(1 << b);
            outAgainst[a] &= ~(1 << b);
        }

        int everyPost() {
            return (1 << size) - 1;
        }

        int into(int post) {
            int found = 0;
            for (int a = 0; a < size; a++) {
                found |= bit(a, post) << a;
            }
            return found;
        }

        int beside(int post) {
            return out[post] | into(post);
        }

        /** The posts with which this one is against, whichever way the link goes. */
        int opposed(int post) {
            int found = outAgainst[post];
            for (int a = 0; a < size; a++) {
                found |= kindOf(a, post) << a;
            }
            return found;
        }

        int besideBit(int a, int b) {
            return bit(a, b) | bit(b, a);
        }

        int opposedBit(int a, int b) {
            return kindOf(a, b) | kindOf(b, a);
        }

        int linkCount() {
            int found = 0;
            for (int a = 0; a < size; a++) {
                found += Integer.bitCount(out[a]);
            }
            return found;
        }

        int againstCount() {
            int found = 0;
            for (int a = 0; a < size; a++) {
                found += Integer.bitCount(outAgainst[a]);
            }
            return found;
        }

        int besideCount() {
            int found = 0;
            for (int a = 0; a < size; a++) {
                for (int b = a + 1; b < size; b++) {
                    found += besideBit(a, b);
                }
            }
            return found;
        }

        int codeOf(int p, int q, int r) {
            return bit(p, q) | bit(p, r) << 1 | bit(q, p) << 2 | bit(q, r) << 3 | bit(r, p) << 4 | bit(r, q) << 5;
        }

        /** The number is below linkCount(): its callers have looked. */
        int spotOf(int number) {
            int left = number;
            for (int a = 0; a < size; a++) {
                int here = Integer.bitCount(out[a]);
                if (left < here) {
                    return spot(a, setBit(out[a], left));
                }
                left -= here;
            }
            return 0;
        }

        private static int setBit(int bits, int number) {
            int left = number;
            for (int b = 0; b < MOST_POSTS; b++) {
                if ((bits >> b & 1) == 1) {
                    if (left == 0) {
                        return b;
                    }
                    left--;
                }
            }
            return 0;
        }

        /** The swap of two links told by their spots; false, and nothing changes, if it may not be. */
        boolean exchange(int first, int second) {
            int a = fromOf(first);
            int b = toOf(first);
            int c = fromOf(second);
            int d = toOf(second);
            if (a == c || b == d || a == d || c == b || has(a, d) || has(c, b)) {
                return false;
            }
            put(a, d, kindOf(a, b), timeOf(a, b));
            put(c, b, kindOf(c, d), timeOf(c, d));
            drop(a, b);
            drop(c, d);
            return true;
        }
    }

    /** What holds of the sixteen shapes in every net. */
    private static final class ShapeTable {
        private static final int CODES = 64;
        private static final int[] ORDERS = {0, 1, 2, 0, 2, 1, 1, 0, 2, 1, 2, 0, 2, 0, 1, 2, 1, 0};

        private final int[] shapeOfCode = new int[CODES];
        private final int[] leastCode = new int[SHAPES];
        private final int[] codeCount = new int[SHAPES];
        private final int[] placeCount = new int[SHAPES];
        private final int[] placeInCode = new int[CODES * PLACES];

        ShapeTable() {
            int found = 0;
            for (int code = 0; code < CODES; code++) {
                int least = leastOf(code);
                // A least code comes ahead of all others of its shape, so shapes are met by their least codes.
                if (least == code && found < SHAPES) {
                    leastCode[found] = code;
                    shapeOfCode[code] = found;
                    found++;
                }
                int shape = shapeOfCode[least];
                shapeOfCode[code] = shape;
                codeCount[shape]++;
                setPlaces(code, least);
            }
            for (int shape = 0; shape < SHAPES; shape++) {
                placeCount[shape] = placesIn(leastCode[shape]);
            }
        }

        int linkCount(int shape) {
            return Integer.bitCount(leastCode[shape]);
        }

        /** The place of the post that stands first (0), second (1) or third (2) in the order that has this code. */
        int placeOf(int code, int standing) {
            return placeInCode[code * PLACES + standing];
        }

        private static int leastOf(int code) {
            int least = code;
            for (int order = 0; order < ORDERS.length; order += PLACES) {
                least = Math.min(least, reordered(code, order));
            }
            return least;
        }

        private void setPlaces(int code, int least) {
            for (int standing = 0; standing < PLACES; standing++) {
                placeInCode[code * PLACES + standing] = PLACES - 1;
            }
            for (int order = 0; order < ORDERS.length; order += PLACES) {
                if (reordered(code, order) == least) {
                    for (int place = 0; place < PLACES; place++) {
                        int index = code * PLACES + ORDERS[order + place];
                        placeInCode[index] = Math.min(placeInCode[index], place);
                    }
                }
            }
        }

        /** In the least code's own order each post stands at its standing, so a place is there if it is its own least. */
        private int placesIn(int least) {
            int found = 0;
            for (int standing = 0; standing < PLACES; standing++) {
                if (placeOf(least, standing) == standing) {
                    found++;
                }
            }
            return found;
        }

        /** The code of the same three posts when they are put into another order. */
        private static int reordered(int code, int order) {
            int result = 0;
            for (int x = 0; x < PLACES; x++) {
                for (int y = 0; y < PLACES; y++) {
                    if (x != y && (code >> codeBit(ORDERS[order + x], ORDERS[order + y]) & 1) == 1) {
                        result |= 1 << codeBit(x, y);
                    }
                }
            }
            return result;
        }

        private static int codeBit(int from, int to) {
            return from * 2 + (to > from ? to - 1 : to);
        }
    }

    /** Threes of a net counted by shapes, and by posts and their places. */
    private static final class Census {
        private static final int COUNTS_OF_POST = SHAPES * PLACES;

        private final ShapeTable table;
        private final int[] postCounts = new int[MOST_POSTS * COUNTS_OF_POST];
        private final int[] roleOfPost = new int[MOST_POSTS];
        private final int[] shapeCounts = new int[SHAPES];

        Census(ShapeTable table) {
            this.table = table;
        }

        int threesOf(Net net, int shape, int set) {
            clear(shapeCounts);
            addThrees(net, set, 1);
            return shapeCounts[shape];
        }

        int difference(Net one, Net other) {
            clear(shapeCounts);
            addThrees(one, one.everyPost(), 1);
            addThrees(other, other.everyPost(), -1);
            int sum = 0;
            for (int shape = 0; shape < SHAPES; shape++) {
                sum += Math.abs(shapeCounts[shape]);
            }
            return sum;
        }

        private void addThrees(Net net, int set, int weight) {
            for (int p = 0; p < net.size; p++) {
                for (int q = p + 1; q < net.size; q++) {
                    for (int r = q + 1; r < net.size; r++) {
                        int three = 1 << p | 1 << q | 1 << r;
                        if ((set & three) == three) {
                            shapeCounts[table.shapeOfCode[net.codeOf(p, q, r)]] += weight;
                        }
                    }
                }
            }
        }

        void countByPosts(Net net) {
            clear(postCounts);
            for (int p = 0; p < net.size; p++) {
                for (int q = p + 1; q < net.size; q++) {
                    for (int r = q + 1; r < net.size; r++) {
                        int code = net.codeOf(p, q, r);
                        addToPost(p, code, 0);
                        addToPost(q, code, 1);
                        addToPost(r, code, 2);
                    }
                }
            }
        }

        private void addToPost(int post, int code, int standing) {
            postCounts[countIndex(post, table.shapeOfCode[code], table.placeOf(code, standing))]++;
        }

        int postCount(int post, int shape, int place) {
            return postCounts[countIndex(post, shape, place)];
        }

        private static int countIndex(int post, int shape, int place) {
            return post * COUNTS_OF_POST + shape * PLACES + place;
        }

        /** Sets the role of each post, and answers how many roles there are. */
        int findRoles(Net net) {
            countByPosts(net);
            int found = 0;
            for (int post = 0; post < net.size; post++) {
                int like = firstAlike(post);
                if (like == post) {
                    roleOfPost[post] = found;
                    found++;
                } else {
                    roleOfPost[post] = roleOfPost[like];
                }
            }
            return found;
        }

        private int firstAlike(int post) {
            for (int earlier = 0; earlier < post; earlier++) {
                if (alike(earlier, post)) {
                    return earlier;
                }
            }
            return post;
        }

        private boolean alike(int one, int other) {
            for (int i = 0; i < COUNTS_OF_POST; i++) {
                if (postCounts[one * COUNTS_OF_POST + i] != postCounts[other * COUNTS_OF_POST + i]) {
                    return false;
                }
            }
            return true;
        }

        private static void clear(int[] row) {
            for (int i = 0; i < row.length; i++) {
                row[i] = 0;
            }
        }
    }

    /** Fours of posts that hang together. */
    private static final class Fours {
        private static final int NOT_TOGETHER = -1;
        private static final int ROW = 0;
        private static final int STAR = 1;
        private static final int RING = 2;
        private static final int KITE = 3;
        private static final int BARRED_RING = 4;
        private static final int ALL = 5;

        static int ofKind(Net net, int kind) {
            int found = 0;
            for (int a = 0; a < net.size; a++) {
                for (int b = a + 1; b < net.size; b++) {
                    found += withTwo(net, a, b, kind);
                }
            }
            return found;
        }

        /** Of the fours whose two least posts are a and b. */
        private static int withTwo(Net net, int a, int b, int kind) {
            int found = 0;
            for (int c = b + 1; c < net.size; c++) {
                for (int d = c + 1; d < net.size; d++) {
                    if (kindOfFour(net, a, b, c, d) == kind) {
                        found++;
                    }
                }
            }
            return found;
        }

        private static int kindOfFour(Net net, int a, int b, int c, int d) {
            int ab = net.besideBit(a, b);
            int ac = net.besideBit(a, c);
            int ad = net.besideBit(a, d);
            int bc = net.besideBit(b, c);
            int bd = net.besideBit(b, d);
            int cd = net.besideBit(c, d);
            int ofA = ab + ac + ad;
            int ofB = ab + bc + bd;
            int ofC = ac + bc + cd;
            int ofD = ad + bd + cd;
            int most = Math.max(Math.max(ofA, ofB), Math.max(ofC, ofD));
            int fewest = Math.min(Math.min(ofA, ofB), Math.min(ofC, ofD));
            return kindBy((ofA + ofB + ofC + ofD) / 2, most, fewest);
        }

        private static int kindBy(int twos, int most, int fewest) {
            switch (twos) {
                case 3:
                    // With a post beside none the other three are a closed three.
                    if (fewest == 0) {
                        return NOT_TOGETHER;
                    }
                    return most == 3 ? STAR : ROW;
                case 4:
                    return most == 3 ? KITE : RING;
                case 5:
                    return BARRED_RING;
                case 6:
                    return ALL;
                default:
                    return NOT_TOGETHER;
            }
        }
    }

    /** The seed, what is drawn by it, and the mixing of links by such draws. */
    private static final class Lot {
        private int seedNow = 1;

        private int drawBelow(int bound) {
            seedNow = seedNow * 1103515245 + 12345;
            return bound > 0 ? (seedNow >>> 16) % bound : 0;
        }

        int mixLinks(Net net, int times) {
            int done = 0;
            // A swap takes away two links and brings two, so their number stays.
            int links = net.linkCount();
            for (int i = 0; i < times; i++) {
                int first = drawBelow(links);
                int second = drawBelow(links);
                // The same link drawn twice is refused there too: its first posts are one.
                if (net.exchange(net.spotOf(first), net.spotOf(second))) {
                    done++;
                }
            }
            return done;
        }
    }

    /** A fraction without a common divisor. */
    private static final class Fraction {
        private long above = 0;
        private long below = 1;

        /** Both are 0 or more; a fraction by 0 never comes, and would be 0 by 1. */
        void become(long newAbove, long newBelow) {
            long divisor = commonDivisor(newAbove, newBelow);
            if (newBelow <= 0 || divisor <= 0) {
                above = 0;
                below = 1;
                return;
            }
            above = newAbove / divisor;
            below = newBelow / divisor;
        }

        private static long commonDivisor(long one, long other) {
            long x = one;
            long y = other;
            // Two longs need fewer than 100 steps.
            for (int step = 0; step < 200 && y != 0; step++) {
                long rest = x % y;
                x = y;
                y = rest;
            }
            return x;
        }
    }

    /** Chains and bursts of links in time. */
    private static final class Times {

        static int backChains(Net net, int within) {
            int found = 0;
            for (int a = 0; a < net.size; a++) {
                for (int b = 0; b < net.size; b++) {
                    if (isChain(net, a, b, a, within)) {
                        found++;
                    }
                }
            }
            return found;
        }

        static int onChains(Net net, int within) {
            int found = 0;
            for (int a = 0; a < net.size; a++) {
                for (int b = 0; b < net.size; b++) {
                    for (int c = 0; c < net.size; c++) {
                        if (c != a && isChain(net, a, b, c, within)) {
                            found++;
                        }
                    }
                }
            }
            return found;
        }

        private static boolean isChain(Net net, int a, int b, int c, int within) {
            if (!net.has(a, b) || !net.has(b, c)) {
                return false;
            }
            int later = net.timeOf(b, c) - net.timeOf(a, b);
            return later > 0 && later <= within;
        }

        static int longestBurst(Net net, int post, int within) {
            int most = 0;
            for (int b = 0; b < net.size; b++) {
                if (net.has(post, b)) {
                    most = Math.max(most, linksFrom(net, post, net.timeOf(post, b), within));
                }
            }
            return most;
        }

        private static int linksFrom(Net net, int post, int start, int within) {
            int found = 0;
            for (int b = 0; b < net.size; b++) {
                int later = net.timeOf(post, b) - start;
                if (net.has(post, b) && later >= 0 && later <= within) {
                    found++;
                }
            }
            return found;
        }
    }

    /** Threes of which each two are beside one another, by whether they quarrel. */
    private static final class Signs {

        static int closedThrees(Net net, boolean quarrelling) {
            int found = 0;
            for (int a = 0; a < net.size; a++) {
                for (int b = a + 1; b < net.size; b++) {
                    for (int c = b + 1; c < net.size; c++) {
                        if (isClosed(net, a, b, c) && quarrels(net, a, b, c) == quarrelling) {
                            found++;
                        }
                    }
                }
            }
            return found;
        }

        private static boolean isClosed(Net net, int a, int b, int c) {
            return (net.besideBit(a, b) & net.besideBit(a, c) & net.besideBit(b, c)) == 1;
        }

        private static boolean quarrels(Net net, int a, int b, int c) {
            int against = net.opposedBit(a, b) + net.opposedBit(a, c) + net.opposedBit(b, c);
            return against == 1 || against == 3;
        }
    }

    /** Tries every way to put the posts on two sides. */
    private static final class SideSearch {
        private final int[] beside = new int[MOST_POSTS];
        private final int[] opposed = new int[MOST_POSTS];
        private int leastTurned = 0;
        private int leastSet = 0;

        /**
         * From one try to the next only one post goes to the other side (so that only its own twos change), the
         * one whose bit is the lowest of the try's number: so all sets of posts come, each once, though not by size.
         */
        void tryAll(Net net) {
            int turned = readTwos(net);
            int second = 0;
            leastTurned = turned;
            leastSet = second;
            int tries = 1 << (net.size - 1);
            for (int number = 1; number < tries; number++) {
                int post = 1 + lowestBit(number);
                turned += changeIfMoved(post, second);
                second ^= 1 << post;
                if (turned < leastTurned || turned == leastTurned && second < leastSet) {
                    leastTurned = turned;
                    leastSet = second;
                }
            }
        }

        /** Answers how many twos are against: those to be turned while all posts are on the first side. */
        private int readTwos(Net net) {
            int found = 0;
            for (int post = 0; post < net.size; post++) {
                beside[post] = net.beside(post);
                opposed[post] = net.opposed(post);
                found += Integer.bitCount(opposed[post]);
            }
            return found / 2;
        }

        private static int lowestBit(int number) {
            return Integer.bitCount((number & -number) - 1);
        }

        /** Every two of a post that moves is right if it was wrong, and wrong if it was right. */
        private int changeIfMoved(int post, int second) {
            int across = (second >> post & 1) == 0 ? second : ~second;
            int wrong = Integer.bitCount((beside[post] & across) ^ opposed[post]);
            return Integer.bitCount(beside[post]) - 2 * wrong;
        }
    }

    /** How many walks there are from one post to each, in parts of nine digits, the lowest first. */
    private static final class WalkRows {
        /** 15 to the power of 60, more than there can be, has 71 digits. */
        private static final int PARTS = 8;
        private static final long PART_BOUND = 1000000000L;

        private long[] now = new long[MOST_POSTS * PARTS];
        private long[] before = new long[MOST_POSTS * PARTS];

        void countFrom(Net net, int start, int length) {
            for (int i = 0; i < MOST_POSTS * PARTS; i++) {
                now[i] = 0;
            }
            now[start * PARTS] = 1;
            for (int step = 0; step < length; step++) {
                long[] spare = before;
                before = now;
                now = spare;
                goOn(net);
            }
        }

        private void goOn(Net net) {
            for (int to = 0; to < net.size; to++) {
                int from = net.into(to);
                long carried = 0;
                for (int part = 0; part < PARTS; part++) {
                    long sum = carried + sumOf(net.size, from, part);
                    now[to * PARTS + part] = sum % PART_BOUND;
                    carried = sum / PART_BOUND;
                }
            }
        }

        private long sumOf(int size, int from, int part) {
            long sum = 0;
            for (int a = 0; a < size; a++) {
                if ((from >> a & 1) == 1) {
                    sum += before[a * PARTS + part];
                }
            }
            return sum;
        }

        /** A number has no parts above its highest that is not 0; the number 0 has one. */
        int partsOf(int post) {
            int parts = 1;
            for (int part = 1; part < PARTS; part++) {
                if (now[post * PARTS + part] != 0) {
                    parts = part + 1;
                }
            }
            return parts;
        }

        int partOf(int post, int part) {
            return (int) now[post * PARTS + part];
        }
    }
}
