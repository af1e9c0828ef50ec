import java.math.BigInteger;
import java.util.ArrayList;
import java.util.Arrays;
import java.util.HashMap;
import java.util.List;
import java.util.Map;
import java.util.Random;
import java.util.TreeMap;
import java.util.TreeSet;

/**
 * Long runs of calls drawn by fixed seeds, each answer held against a slow model that is written from the document
 * alone, with other means than the program's (maps, big numbers, every order tried anew).
 */
public final class ModelTests {
    private static final int RUNS = 1500;
    private static final int CALLS = 500;

    private static int wrong = 0;
    private static long calls = 0;

    public static void main(String[] args) {
        for (int run = 0; run < RUNS && wrong < 20; run++) {
            new Run(run).go();
        }
        fullNetRun();
        System.out.println(calls + " calls, " + wrong + " answers are not as the model's");
        if (wrong != 0) {
            System.exit(1);
        }
    }

    /** Each shape and mean of the greatest net as it fills, and its walks when it is full: the longest numbers. */
    private static void fullNetRun() {
        for (int rows = 1; rows <= 16; rows++) {
            NetShapes program = new NetShapes();
            Model model = new Model();
            List<String> told = new ArrayList<>();
            fillRows(program, model, told, rows);
            for (int shape = 0; shape < 16; shape++) {
                check(told, "mean above", program.mean(shape, 0), model.mean(shape, 0));
                check(told, "mean below", program.mean(shape, 1), model.mean(shape, 1));
                check(told, "more", program.more(shape), model.more(shape));
            }
            for (int part = -1; part < 10; part++) {
                check(told, "walks 0 1 60 " + part, program.walks(0, 1, 60, part), model.walks(0, 1, 60, part));
                check(told, "walks 3 3 59 " + part, program.walks(3, 3, 59, part), model.walks(3, 3, 59, part));
            }
        }
    }

    private static void fillRows(NetShapes program, Model model, List<String> told, int rows) {
        check(told, "posts(16)", program.posts(16), model.posts(16));
        for (int a = 0; a < rows; a++) {
            for (int b = 0; b < 16; b++) {
                if (a != b) {
                    check(told, "link", program.link(a, b, 0, 0), model.link(a, b, 0, 0));
                }
            }
        }
    }

    private static void check(List<String> told, String call, long got, long due) {
        calls++;
        told.add(call + " = " + got);
        if (got != due) {
            wrong++;
            int from = Math.max(0, told.size() - 12);
            System.out.println("due is " + due + " at the end of .. " + told.subList(from, told.size()));
        }
    }

    /** One run of calls on one new object. */
    private static final class Run {
        private static final int[] FAR_OFF = {
            Integer.MIN_VALUE, Integer.MIN_VALUE + 1, -1000000, -17, -2, -1, 16, 17, 61, 256, 501, 1001, 65536,
            Integer.MAX_VALUE - 1, Integer.MAX_VALUE};

        private final Random random;
        private final int number;
        private final NetShapes program = new NetShapes();
        private final Model model = new Model();
        private final List<String> told = new ArrayList<>();

        Run(int number) {
            this.number = number;
            random = new Random(90001L + number);
        }

        void go() {
            int size = number % 4 == 0 ? 3 + random.nextInt(3) : number % 4 == 1 ? 16 : 3 + random.nextInt(14);
            if (random.nextInt(8) != 0) {
                check(told, "posts(" + size + ")", program.posts(size), model.posts(size));
            }
            int first = random.nextInt(Math.min(150, model.n * model.n));
            for (int i = 0; i < first; i++) {
                linkCall();
            }
            for (int i = first; i < CALLS && wrong < 20; i++) {
                anyCall();
            }
        }

        private int among(int bound) {
            if (random.nextInt(25) == 0) {
                return FAR_OFF[random.nextInt(FAR_OFF.length)];
            }
            if (random.nextInt(25) == 0) {
                return random.nextBoolean() ? -1 : bound;
            }
            return random.nextInt(bound);
        }

        private int post() {
            return among(model.n);
        }

        private int shapeNumber() {
            return among(16);
        }

        private int within() {
            return random.nextBoolean() ? among(1001) : among(12);
        }

        private int sheetNumber() {
            return among(4);
        }

        private int linkNumber() {
            return among(Math.max(1, model.links.size()));
        }

        private void linkCall() {
            int a = post();
            int b = post();
            int kind = among(2);
            int time = random.nextInt(3) == 0 ? among(1001) : among(20);
            check(told, "link(" + a + "," + b + "," + kind + "," + time + ")",
                program.link(a, b, kind, time), model.link(a, b, kind, time));
        }

        private void anyCall() {
            int which = random.nextInt(60);
            if (which < 29) {
                oneOfEach(which);
            } else if (which < 45) {
                linkCall();
            } else if (which < 50) {
                cutOneThatIs();
            } else {
                oneOfEach(random.nextInt(29));
            }
        }

        private void cutOneThatIs() {
            if (!model.links.isEmpty()) {
                int i = random.nextInt(model.links.size());
                int a = model.at(i, 0);
                int b = model.at(i, 1);
                check(told, "cut(" + a + "," + b + ")", program.cut(a, b), model.cut(a, b));
            }
        }

        private void oneOfEach(int which) {
            if (which < 10) {
                firstTen(which);
            } else if (which < 20) {
                secondTen(which);
            } else {
                lastNine(which);
            }
        }

        private void firstTen(int which) {
            int a = post();
            int b = post();
            int c = post();
            int what = among(4);
            int shape = shapeNumber();
            int place = among(3);
            int i = linkNumber();
            switch (which) {
                case 0:
                    if (random.nextInt(6) == 0) {
                        int n = among(19);
                        check(told, "posts(" + n + ")", program.posts(n), model.posts(n));
                    }
                    break;
                case 1:
                    linkCall();
                    break;
                case 2:
                    check(told, "cut(" + a + "," + b + ")", program.cut(a, b), model.cut(a, b));
                    break;
                case 3:
                    check(told, "linkOf(" + a + "," + b + "," + what + ")", program.linkOf(a, b, what),
                        model.linkOf(a, b, what));
                    break;
                case 4:
                    check(told, "at(" + i + "," + what + ")", program.at(i, what), model.at(i, what));
                    break;
                case 5:
                    check(told, "shape(" + a + "," + b + "," + c + ")", program.shape(a, b, c), model.shape(a, b, c));
                    break;
                case 6:
                    check(told, "shapeOf(" + shape + "," + what + ")", program.shapeOf(shape, what),
                        model.shapeOf(shape, what));
                    break;
                case 7:
                    check(told, "place(" + a + "," + b + "," + c + ")", program.place(a, b, c), model.place(a, b, c));
                    break;
                case 8:
                    check(told, "count(" + shape + ")", program.count(shape), model.count(shape));
                    break;
                default:
                    check(told, "countOf(" + a + "," + shape + "," + place + ")", program.countOf(a, shape, place),
                        model.countOf(a, shape, place));
                    break;
            }
        }

        private void secondTen(int which) {
            int a = post();
            int what = among(2);
            int shape = shapeNumber();
            int i = linkNumber();
            int j = linkNumber();
            int w = within();
            switch (which) {
                case 10:
                    check(told, "role(" + a + ")", program.role(a), model.role(a));
                    break;
                case 11:
                    check(told, "roles()", program.roles(), model.roles());
                    break;
                case 12:
                    int kind = among(6);
                    check(told, "fours(" + kind + ")", program.fours(kind), model.fours(kind));
                    break;
                case 13:
                    int s = random.nextInt();
                    check(told, "seed(" + s + ")", program.seed(s), model.seed(s));
                    break;
                case 14:
                    check(told, "swap(" + i + "," + j + ")", program.swap(i, j), model.swap(i, j));
                    break;
                case 15:
                    int n = random.nextInt(3) == 0 ? among(501) : among(10);
                    check(told, "mix(" + n + ")", program.mix(n), model.mix(n));
                    break;
                case 16:
                    check(told, "mean(" + shape + "," + what + ")", program.mean(shape, what), model.mean(shape, what));
                    break;
                case 17:
                    check(told, "more(" + shape + ")", program.more(shape), model.more(shape));
                    break;
                case 18:
                    check(told, "chains(" + w + "," + what + ")", program.chains(w, what), model.chains(w, what));
                    break;
                default:
                    check(told, "burst(" + a + "," + w + ")", program.burst(a, w), model.burst(a, w));
                    break;
            }
        }

        private void lastNine(int which) {
            int a = post();
            int b = post();
            int what = among(2);
            int shape = shapeNumber();
            int sheet = sheetNumber();
            switch (which) {
                case 20:
                    check(told, "signs(" + what + ")", program.signs(what), model.signs(what));
                    break;
                case 21:
                    // The model tries all sides two by two: in large nets only now and then.
                    if (model.n <= 9 || random.nextInt(20) == 0) {
                        check(told, "sides(" + what + ")", program.sides(what), model.sides(what));
                    }
                    break;
                case 22:
                    int k = random.nextBoolean() ? among(61) : among(5);
                    int i = random.nextInt(3) == 0 ? among(10) : 0;
                    check(told, "walks(" + a + "," + b + "," + k + "," + i + ")", program.walks(a, b, k, i),
                        model.walks(a, b, k, i));
                    break;
                case 23:
                    int set = random.nextInt(3) == 0 ? among(65536) : random.nextInt(1 << model.n);
                    check(told, "sample(" + set + "," + shape + "," + what + ")", program.sample(set, shape, what),
                        model.sample(set, shape, what));
                    break;
                case 24:
                    check(told, "keep(" + sheet + ")", program.keep(sheet), model.keep(sheet));
                    break;
                case 25:
                    check(told, "take(" + sheet + ")", program.take(sheet), model.take(sheet));
                    break;
                case 26:
                    check(told, "lose(" + sheet + ")", program.lose(sheet), model.lose(sheet));
                    break;
                case 27:
                    check(told, "far(" + sheet + ")", program.far(sheet), model.far(sheet));
                    break;
                default:
                    int ask = among(18);
                    check(told, "status(" + ask + ")", program.status(ask), model.status(ask));
                    break;
            }
        }
    }

    /** The document, told again as plainly as can be. */
    private static final class Model {
        private static final int[][] ORDERS = {{0, 1, 2}, {0, 2, 1}, {1, 0, 2}, {1, 2, 0}, {2, 0, 1}, {2, 1, 0}};
        private static final List<Integer> LEAST_CODES = leastCodes();

        private int n = 6;
        /** By first post times 100 and second post: kind and time. */
        private TreeMap<Integer, int[]> links = new TreeMap<>();
        private int seed = 1;
        private final int[] sheetN = new int[4];
        private final List<TreeMap<Integer, int[]>> sheets = new ArrayList<>(Arrays.asList(null, null, null, null));
        private final int[] refusals = new int[7];

        private static List<Integer> leastCodes() {
            TreeSet<Integer> found = new TreeSet<>();
            for (int code = 0; code < 64; code++) {
                boolean[][] m = new boolean[3][3];
                m[0][1] = (code & 1) != 0;
                m[0][2] = (code & 2) != 0;
                m[1][0] = (code & 4) != 0;
                m[1][2] = (code & 8) != 0;
                m[2][0] = (code & 16) != 0;
                m[2][1] = (code & 32) != 0;
                found.add(least(m));
            }
            return new ArrayList<>(found);
        }

        private static int code(boolean[][] m, int p, int q, int r) {
            int code = 0;
            code += m[p][q] ? 1 : 0;
            code += m[p][r] ? 2 : 0;
            code += m[q][p] ? 4 : 0;
            code += m[q][r] ? 8 : 0;
            code += m[r][p] ? 16 : 0;
            code += m[r][q] ? 32 : 0;
            return code;
        }

        private static int least(boolean[][] m) {
            int least = 64;
            for (int[] o : ORDERS) {
                least = Math.min(least, code(m, o[0], o[1], o[2]));
            }
            return least;
        }

        private boolean[][] three(int a, int b, int c) {
            int[] posts = {a, b, c};
            boolean[][] m = new boolean[3][3];
            for (int x = 0; x < 3; x++) {
                for (int y = 0; y < 3; y++) {
                    m[x][y] = has(posts[x], posts[y]);
                }
            }
            return m;
        }

        private int shapeNumber(int a, int b, int c) {
            return LEAST_CODES.indexOf(least(three(a, b, c)));
        }

        private static int placeIn(boolean[][] m, int who) {
            int least = least(m);
            int place = 3;
            for (int[] o : ORDERS) {
                if (code(m, o[0], o[1], o[2]) == least) {
                    for (int at = 0; at < 3; at++) {
                        if (o[at] == who) {
                            place = Math.min(place, at);
                        }
                    }
                }
            }
            return place;
        }

        private boolean has(int a, int b) {
            return links.containsKey(a * 100 + b);
        }

        private boolean beside(int a, int b) {
            return has(a, b) || has(b, a);
        }

        private boolean against(int a, int b) {
            return has(a, b) && links.get(a * 100 + b)[0] == 1 || has(b, a) && links.get(b * 100 + a)[0] == 1;
        }

        private int no(int number) {
            refusals[-number]++;
            return number;
        }

        private boolean noPost(int p) {
            return p < 0 || p >= n;
        }

        private boolean noShape(int s) {
            return s < 0 || s > 15;
        }

        int posts(int size) {
            if (size < 3) return no(-4);
            if (size > 16) return no(-6);
            int was = n;
            n = size;
            links = new TreeMap<>();
            return was;
        }

        int link(int a, int b, int kind, int time) {
            if (noPost(a) || noPost(b) || a == b) return no(-1);
            if (kind < 0 || time < 0) return no(-4);
            if (kind > 1 || time > 1000) return no(-6);
            return links.put(a * 100 + b, new int[] {kind, time}) == null ? 1 : 0;
        }

        int cut(int a, int b) {
            if (noPost(a) || noPost(b) || a == b) return no(-1);
            if (!has(a, b)) return no(-3);
            links.remove(a * 100 + b);
            return 1;
        }

        int linkOf(int a, int b, int what) {
            if (noPost(a) || noPost(b) || a == b) return no(-1);
            if (what < 0 || what > 2) return no(-2);
            if (!has(a, b)) return 0;
            return what == 0 ? 1 : links.get(a * 100 + b)[what - 1];
        }

        int at(int i, int what) {
            if (i < 0 || i >= links.size()) return no(-1);
            if (what < 0 || what > 1) return no(-2);
            int key = new ArrayList<>(links.keySet()).get(i);
            return what == 0 ? key / 100 : key % 100;
        }

        int shape(int a, int b, int c) {
            if (noPost(a) || noPost(b) || noPost(c) || a == b || a == c || b == c) return no(-1);
            return shapeNumber(a, b, c);
        }

        int shapeOf(int shape, int what) {
            if (noShape(shape)) return no(-1);
            if (what < 0 || what > 3) return no(-2);
            int leastCode = LEAST_CODES.get(shape);
            if (what == 0) return leastCode;
            if (what == 2) return Integer.bitCount(leastCode);
            int codes = 0;
            TreeSet<Integer> places = new TreeSet<>();
            for (int code = 0; code < 64; code++) {
                boolean[][] m = new boolean[3][3];
                int[][] bits = {{0, 1}, {0, 2}, {1, 0}, {1, 2}, {2, 0}, {2, 1}};
                for (int bit = 0; bit < 6; bit++) {
                    m[bits[bit][0]][bits[bit][1]] = (code >> bit & 1) != 0;
                }
                if (least(m) == leastCode) {
                    codes++;
                    for (int who = 0; who < 3; who++) {
                        places.add(placeIn(m, who));
                    }
                }
            }
            return what == 1 ? codes : places.size();
        }

        int place(int a, int b, int c) {
            if (noPost(a) || noPost(b) || noPost(c) || a == b || a == c || b == c) return no(-1);
            return placeIn(three(a, b, c), 0);
        }

        private int inSet(int shape, int set) {
            int found = 0;
            for (int a = 0; a < n; a++) {
                for (int b = 0; b < a; b++) {
                    for (int c = 0; c < b; c++) {
                        boolean in = (set >> a & set >> b & set >> c & 1) == 1;
                        found += in && shapeNumber(a, b, c) == shape ? 1 : 0;
                    }
                }
            }
            return found;
        }

        int count(int shape) {
            if (noShape(shape)) return no(-1);
            return inSet(shape, 65535);
        }

        private int[] countsOf(int post) {
            int[] counts = new int[48];
            for (int b = 0; b < n; b++) {
                for (int c = 0; c < b; c++) {
                    if (b != post && c != post) {
                        boolean[][] m = three(post, b, c);
                        counts[LEAST_CODES.indexOf(least(m)) * 3 + placeIn(m, 0)]++;
                    }
                }
            }
            return counts;
        }

        int countOf(int post, int shape, int place) {
            if (noPost(post) || noShape(shape)) return no(-1);
            if (place < 0 || place > 2) return no(-2);
            return countsOf(post)[shape * 3 + place];
        }

        private int[] allRoles() {
            Map<String, Integer> seen = new HashMap<>();
            int[] roles = new int[n];
            for (int post = 0; post < n; post++) {
                String counts = Arrays.toString(countsOf(post));
                if (!seen.containsKey(counts)) {
                    seen.put(counts, seen.size());
                }
                roles[post] = seen.get(counts);
            }
            return roles;
        }

        int role(int post) {
            if (noPost(post)) return no(-1);
            return allRoles()[post];
        }

        int roles() {
            return Arrays.stream(allRoles()).max().getAsInt() + 1;
        }

        private int fourKind(int[] posts) {
            int[] degree = new int[4];
            int reached = 1;
            for (int round = 0; round < 4; round++) {
                for (int x = 0; x < 4; x++) {
                    for (int y = 0; y < 4; y++) {
                        if ((reached >> x & 1) == 1 && x != y && beside(posts[x], posts[y])) {
                            reached |= 1 << y;
                        }
                    }
                }
            }
            if (reached != 15) return -1;
            for (int x = 0; x < 4; x++) {
                for (int y = 0; y < 4; y++) {
                    degree[x] += x != y && beside(posts[x], posts[y]) ? 1 : 0;
                }
            }
            Arrays.sort(degree);
            return List.of("[1, 1, 2, 2]", "[1, 1, 1, 3]", "[2, 2, 2, 2]", "[1, 2, 2, 3]", "[2, 2, 3, 3]",
                "[3, 3, 3, 3]").indexOf(Arrays.toString(degree));
        }

        int fours(int kind) {
            if (kind < 0 || kind > 5) return no(-2);
            int found = 0;
            for (int set = 0; set < 1 << n; set++) {
                if (Integer.bitCount(set) == 4) {
                    int[] posts = new int[4];
                    int filled = 0;
                    for (int p = 0; p < n; p++) {
                        if ((set >> p & 1) == 1) posts[filled++] = p;
                    }
                    found += fourKind(posts) == kind ? 1 : 0;
                }
            }
            return found;
        }

        int seed(int s) {
            int was = seed;
            seed = s;
            return was;
        }

        private boolean swapped(int i, int j) {
            List<Integer> keys = new ArrayList<>(links.keySet());
            int a = keys.get(i) / 100;
            int b = keys.get(i) % 100;
            int c = keys.get(j) / 100;
            int d = keys.get(j) % 100;
            if (a == c || b == d || a == d || c == b || has(a, d) || has(c, b)) return false;
            int[] first = links.remove(a * 100 + b);
            int[] second = links.remove(c * 100 + d);
            links.put(a * 100 + d, first);
            links.put(c * 100 + b, second);
            return true;
        }

        int swap(int i, int j) {
            if (i < 0 || j < 0 || i >= links.size() || j >= links.size() || i == j) return no(-1);
            return swapped(i, j) ? 1 : no(-3);
        }

        private int draw(int below) {
            BigInteger next = BigInteger.valueOf(seed).multiply(BigInteger.valueOf(1103515245));
            seed = next.add(BigInteger.valueOf(12345)).intValue();
            long unsigned = seed & 0xFFFFFFFFL;
            return (int) (unsigned / 65536 % below);
        }

        int mix(int times) {
            if (times < 0) return no(-4);
            if (times > 500) return no(-6);
            if (links.size() < 2) return no(-3);
            int done = 0;
            for (int i = 0; i < times; i++) {
                int first = draw(links.size());
                int second = draw(links.size());
                done += swapped(first, second) ? 1 : 0;
            }
            return done;
        }

        private static BigInteger choose(int from, int many) {
            if (many < 0 || many > from) return BigInteger.ZERO;
            BigInteger result = BigInteger.ONE;
            for (int i = 1; i <= many; i++) {
                result = result.multiply(BigInteger.valueOf(from - many + i)).divide(BigInteger.valueOf(i));
            }
            return result;
        }

        private BigInteger[] meanOf(int shape) {
            int spots = n * (n - 1);
            BigInteger ways = BigInteger.ZERO;
            for (int code = 0; code < 64; code++) {
                if (codeIsOf(code, shape)) {
                    ways = ways.add(choose(spots - 6, links.size() - Integer.bitCount(code)));
                }
            }
            BigInteger above = ways.multiply(choose(n, 3));
            BigInteger below = choose(spots, links.size());
            BigInteger common = above.gcd(below);
            return new BigInteger[] {above.divide(common), below.divide(common)};
        }

        private static boolean codeIsOf(int code, int shape) {
            boolean[][] m = new boolean[3][3];
            int[][] bits = {{0, 1}, {0, 2}, {1, 0}, {1, 2}, {2, 0}, {2, 1}};
            for (int bit = 0; bit < 6; bit++) {
                m[bits[bit][0]][bits[bit][1]] = (code >> bit & 1) != 0;
            }
            return least(m) == LEAST_CODES.get(shape);
        }

        long mean(int shape, int part) {
            if (noShape(shape)) return no(-1);
            if (part < 0 || part > 1) return no(-2);
            return meanOf(shape)[part].longValueExact();
        }

        int more(int shape) {
            if (noShape(shape)) return 2000000000 - no(-1);
            BigInteger[] mean = meanOf(shape);
            return BigInteger.valueOf(inSet(shape, 65535)).multiply(mean[1]).compareTo(mean[0]);
        }

        int chains(int w, int what) {
            if (what < 0 || what > 1) return no(-2);
            if (w < 0) return no(-4);
            if (w > 1000) return no(-6);
            int found = 0;
            for (Map.Entry<Integer, int[]> one : links.entrySet()) {
                for (Map.Entry<Integer, int[]> two : links.entrySet()) {
                    boolean goesOn = one.getKey() % 100 == two.getKey() / 100;
                    boolean back = one.getKey() / 100 == two.getKey() % 100;
                    int later = two.getValue()[1] - one.getValue()[1];
                    found += goesOn && later > 0 && later <= w && back == (what == 0) ? 1 : 0;
                }
            }
            return found;
        }

        int burst(int post, int w) {
            if (noPost(post)) return no(-1);
            if (w < 0) return no(-4);
            if (w > 1000) return no(-6);
            List<Integer> times = new ArrayList<>();
            for (Map.Entry<Integer, int[]> one : links.entrySet()) {
                if (one.getKey() / 100 == post) times.add(one.getValue()[1]);
            }
            times.sort(null);
            for (int many = times.size(); many > 0; many--) {
                for (int from = 0; from + many <= times.size(); from++) {
                    if (times.get(from + many - 1) - times.get(from) <= w) return many;
                }
            }
            return 0;
        }

        int signs(int what) {
            if (what < 0 || what > 1) return no(-2);
            int found = 0;
            for (int a = 0; a < n; a++) {
                for (int b = 0; b < a; b++) {
                    for (int c = 0; c < b; c++) {
                        if (beside(a, b) && beside(b, c) && beside(a, c)) {
                            boolean quarrel = against(a, b) ^ against(b, c) ^ against(a, c);
                            found += quarrel == (what == 1) ? 1 : 0;
                        }
                    }
                }
            }
            return found;
        }

        int sides(int what) {
            if (what < 0 || what > 1) return no(-2);
            int least = Integer.MAX_VALUE;
            int leastSet = -1;
            boolean[][] near = new boolean[n][n];
            boolean[][] apart = new boolean[n][n];
            for (int a = 0; a < n; a++) {
                for (int b = 0; b < n; b++) {
                    near[a][b] = beside(a, b);
                    apart[a][b] = against(a, b);
                }
            }
            for (int set = 0; set < 1 << n; set += 2) {
                int turned = 0;
                for (int a = 0; a < n; a++) {
                    for (int b = 0; b < a; b++) {
                        boolean oneSide = (set >> a & 1) == (set >> b & 1);
                        turned += near[a][b] && apart[a][b] == oneSide ? 1 : 0;
                    }
                }
                if (turned < least) {
                    least = turned;
                    leastSet = set;
                }
            }
            return what == 0 ? least : leastSet;
        }

        int walks(int a, int b, int k, int i) {
            if (noPost(a) || noPost(b)) return no(-1);
            if (k < 0) return no(-4);
            if (k > 60) return no(-6);
            BigInteger[] row = new BigInteger[n];
            Arrays.fill(row, BigInteger.ZERO);
            row[b] = BigInteger.ONE;
            for (int step = 0; step < k; step++) {
                BigInteger[] next = new BigInteger[n];
                Arrays.fill(next, BigInteger.ZERO);
                for (int key : links.keySet()) {
                    next[key / 100] = next[key / 100].add(row[key % 100]);
                }
                row = next;
            }
            String digits = row[a].toString();
            int end = digits.length() - 9 * Math.max(-1, Math.min(i, 1000));
            if (i < 0 || end <= 0) return -9;
            return Integer.parseInt(digits.substring(Math.max(0, end - 9), end));
        }

        int sample(int set, int shape, int part) {
            if (noShape(shape) || set < 0 || set >= 1 << n) return no(-1);
            int size = Integer.bitCount(set);
            if (size < 3) return no(-3);
            if (part < 0 || part > 1) return no(-2);
            BigInteger above = BigInteger.valueOf(inSet(shape, set)).multiply(choose(n, 3));
            BigInteger below = choose(size, 3);
            return (part == 0 ? above : below).divide(above.gcd(below)).intValueExact();
        }

        private static TreeMap<Integer, int[]> copy(TreeMap<Integer, int[]> from) {
            TreeMap<Integer, int[]> result = new TreeMap<>();
            for (Map.Entry<Integer, int[]> one : from.entrySet()) {
                result.put(one.getKey(), one.getValue().clone());
            }
            return result;
        }

        int keep(int sheet) {
            if (sheet < 0 || sheet > 3) return no(-1);
            sheets.set(sheet, copy(links));
            sheetN[sheet] = n;
            return links.size();
        }

        int take(int sheet) {
            if (sheet < 0 || sheet > 3) return no(-1);
            if (sheets.get(sheet) == null) return no(-5);
            links = copy(sheets.get(sheet));
            n = sheetN[sheet];
            return links.size();
        }

        int lose(int sheet) {
            if (sheet < 0 || sheet > 3) return no(-1);
            if (sheets.get(sheet) == null) return no(-5);
            sheets.set(sheet, null);
            return 1;
        }

        int far(int sheet) {
            if (sheet < 0 || sheet > 3) return no(-1);
            if (sheets.get(sheet) == null) return no(-5);
            Model other = new Model();
            other.n = sheetN[sheet];
            other.links = sheets.get(sheet);
            int sum = 0;
            for (int shape = 0; shape < 16; shape++) {
                sum += Math.abs(inSet(shape, 65535) - other.inSet(shape, 65535));
            }
            return sum;
        }

        int status(int what) {
            int found = 0;
            for (Map.Entry<Integer, int[]> one : links.entrySet()) {
                int a = one.getKey() / 100;
                int b = one.getKey() % 100;
                found += what == 1 || what == 2 && one.getValue()[0] == 1 ? 1 : 0;
                found += what == 3 && (a < b || !has(b, a)) ? 1 : 0;
                found += what == 5 && a == 0 || what == 6 && b == 0 ? 1 : 0;
            }
            for (TreeMap<Integer, int[]> sheet : sheets) {
                found += what == 4 && sheet != null ? 1 : 0;
            }
            if (what == 0) return n;
            if (what >= 1 && what <= 6) return found;
            if (what >= 11 && what <= 16) return refusals[what - 10];
            return -9;
        }
    }
}
