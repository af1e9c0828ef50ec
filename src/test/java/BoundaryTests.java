/**
 * One block for each sentence of the document that names a boundary case, in the document's order, under that sentence:
 * the last number that is taken and the first that is not, the empty and the full net, numbers that go round. Answers
 * are written out, or told by a rule that the sentence gives. No object is used for more than 512 calls.
 *
 * Which refusal is told first, for every combination of arguments, is looked at by RefusalTests.
 */
public final class BoundaryTests extends NetTest {
    private static final int[] ORDERS = {0, 1, 2, 0, 2, 1, 1, 0, 2, 1, 2, 0, 2, 0, 1, 2, 1, 0};
    private static final int[] CODE_FROM = {0, 0, 1, 1, 2, 2};
    private static final int[] CODE_TO = {1, 2, 0, 2, 0, 1};
    private static final int[] LEAST_CODES = {0, 1, 3, 5, 6, 7, 10, 11, 15, 21, 23, 25, 27, 30, 31, 63};
    private static final int[] SHAPE_OF_CODE = {
        0, 1, 1, 2, 1, 3, 4, 5, 1, 4, 6, 7, 2, 5, 7, 8, 1, 4, 3, 5, 6, 9, 9, 10, 4, 11, 9, 12, 7, 12, 13, 14,
        1, 6, 4, 7, 4, 9, 11, 12, 3, 9, 9, 13, 5, 10, 12, 14, 2, 7, 5, 8, 7, 13, 12, 14, 5, 12, 10, 14, 8, 14, 14, 15};
    /** Of the three posts of each code, in their order. */
    private static final String[] PLACES_OF_CODE = {
        "000", "012", "021", "011", "102", "002", "012", "012", "201", "102", "002", "012", "101", "102", "102", "002",
        "120", "021", "020", "021", "200", "012", "021", "011", "210", "000", "120", "012", "201", "201", "010", "012",
        "210", "020", "120", "021", "201", "102", "000", "021", "200", "201", "210", "100", "201", "101", "102", "102",
        "110", "120", "120", "020", "210", "001", "210", "021", "210", "120", "110", "120", "200", "201", "210", "000"};
    /** By which of the six twos of posts 0 to 3 are beside one another: 0 1, 0 2, 0 3, 1 2, 1 3, 2 3; -1 not together. */
    private static final int[] KIND_OF_FOUR = {
        -1, -1, -1, -1, -1, -1, -1, 1, -1, -1, -1, -1, -1, 0, 0, 3, -1, -1, -1, 0, -1, -1, 0, 3, -1, 1, 0, 3, 0, 3, 2, 4,
        -1, -1, -1, 0, -1, 0, -1, 3, -1, 0, 1, 3, 0, 2, 3, 4, -1, 0, 0, 2, 1, 3, 3, 4, -1, 3, 3, 4, 3, 4, 4, 5};
    private static final int[] TWO_FIRST = {0, 0, 0, 1, 1, 2};
    private static final int[] TWO_SECOND = {1, 2, 3, 2, 3, 3};

    public static void main(String[] args) {
        sizesOfTheNet();
        lastPostOfEachCall();
        postsTakeLinksAway();
        atMostOneOfEach();
        kindsAndTimes();
        numbersOfLinks();
        codesAndPlaces();
        sixteenShapes();
        countsOfThrees();
        rolesOfPosts();
        foursTogether();
        swapsThatMayBe();
        swapsThatMayNot();
        drawsGoRound();
        mixingIsDrawnSwaps();
        mixingBounds();
        meansByLot();
        moreThanMean();
        chainsWithin();
        burstsWithin();
        signsOfThrees();
        sidesOfPosts();
        walksOfLength();
        walksInParts();
        samplesOfPosts();
        sheetsMissingAndHeld();
        farFromSheets();
        refusalsAreCounted();
        refusalsOfSignedAnswers();
        aNewObject();
        linkAnswers();
        cutAnswers();
        linkOfNone();
        statusOfAnotherWhat();
        end();
    }

    private static int threes(int n) {
        return n * (n - 1) * (n - 2) / 6;
    }

    private static void sizesOfTheNet() {
        under("THE NET has POSTS 0 .. n - 1 (n 3 .. 16; 6 at first)");
        due("n at first", new NetShapes().status(0), 6);
        for (int n = 3; n <= 16; n++) {
            NetShapes x = new NetShapes();
            due("posts(" + n + ")", x.posts(n), 6);
            due("n", x.status(0), n);
            due("what it was", x.posts(3), n);
        }
        refusedOn(NetShapes::new, -4, -4, "posts(2)", x -> x.posts(2));
        refusedOn(NetShapes::new, -4, -4, "posts(0)", x -> x.posts(0));
        refusedOn(NetShapes::new, -6, -6, "posts(17)", x -> x.posts(17));
        refusedOn(() -> full(3), -4, -4, "posts(2) of the least net", x -> x.posts(2));
        refusedOn(() -> net(16, 15, 14, 1, 1000), -6, -6, "posts(17) of the greatest net", x -> x.posts(17));
    }

    private static void lastPostOfEachCall() {
        under("-1 NOBODY: no such POST");
        for (int n = 3; n <= 16; n++) {
            int last = n - 1;
            NetShapes x = plain(n);
            due("link from the last", x.link(last, 0, 0, 0), 1);
            due("link to the last", x.link(0, last, 0, 0), 1);
            due("linkOf from the last", x.linkOf(last, 0, 0), 1);
            due("linkOf to the last", x.linkOf(0, last, 0), 1);
            due("cut from the last", x.cut(last, 0), 1);
            due("cut to the last", x.cut(0, last), 1);
            due("shape with the last", x.shape(last, 0, 1), 0);
            due("place of the last", x.place(last, 1, 0), 0);
            due("countOf the last", x.countOf(last, 0, 0), (n - 1) * (n - 2) / 2);
            due("role of the last", x.role(last), 0);
            due("burst of the last", x.burst(last, 0), 0);
            due("walks of the last", x.walks(last, last, 0, 0), 1);
            due("sample with the last", x.sample((1 << last) + 3, 0, 0), threes(n));
            noSuchPost(n, -1);
            noSuchPost(n, n);
        }
    }

    private static void noSuchPost(int n, int none) {
        Maker maker = () -> plain(n, 0, 1, 1, 2);
        Call[] calls = {
            x -> x.link(none, 0, 0, 0), x -> x.link(0, none, 0, 0), x -> x.linkOf(none, 0, 0), x -> x.linkOf(0, none, 0),
            x -> x.cut(none, 0), x -> x.cut(0, none), x -> x.shape(none, 0, 1), x -> x.shape(0, none, 1),
            x -> x.shape(0, 1, none), x -> x.place(none, 0, 1), x -> x.place(0, none, 1), x -> x.place(0, 1, none),
            x -> x.countOf(none, 0, 0), x -> x.role(none), x -> x.burst(none, 0), x -> x.walks(none, 0, 0, 0),
            x -> x.walks(0, none, 0, 0)};
        for (int i = 0; i < calls.length; i++) {
            refusedOn(maker, -1, -1, "call " + i + " of " + n + " posts with post " + none, calls[i]);
        }
    }

    private static void postsTakeLinksAway() {
        under("posts: n; no LINKS then: what it was");
        NetShapes x = full(16, 1);
        due("fewer", x.posts(3), 16);
        due("no links", x.status(1), 0);
        due("post 3 is gone", x.role(3), -1);
        due("more", x.posts(16), 3);
        due("no links come again", x.status(1), 0);
        due("nor of kind 1", x.status(2), 0);
        due("nor beside", x.status(3), 0);
        due("all threes are empty", x.count(0), 560);
        NetShapes same = net(4, 0, 1, 1, 9);
        due("as many", same.posts(4), 4);
        due("no links of as many", same.status(1), 0);
        due("no kind of none", same.linkOf(0, 1, 1), 0);
        due("no time of none", same.linkOf(0, 1, 2), 0);
        due("it comes anew", same.link(0, 1, 0, 0), 1);
    }

    private static void atMostOneOfEach() {
        under("LINKS from a POST to another one (a to b and b to a are two), at most one of each");
        for (int n : new int[] {3, 16}) {
            NetShapes x = plain(n);
            for (int i = 0; i < n * n; i++) {
                if (i / n != i % n) {
                    due("a link comes", x.link(i / n, i % n, 0, 0), 1);
                }
            }
            due("full", x.status(1), n * (n - 1));
            due("twos of the full net", x.status(3), n * (n - 1) / 2);
            for (int i = 0; i < n * n; i++) {
                if (i / n != i % n) {
                    due("it was there", x.link(i / n, i % n, 0, 0), 0);
                }
            }
            due("still full", x.status(1), n * (n - 1));
        }
        under("-1 NOBODY: a LINK with itself");
        for (int post = 0; post < 5; post++) {
            int a = post;
            refused(-1, "link with itself " + a, x -> x.link(a, a, 0, 0));
            refused(-1, "linkOf with itself " + a, x -> x.linkOf(a, a, 0));
            refused(-1, "cut with itself " + a, x -> x.cut(a, a));
        }
    }

    private static void kindsAndTimes() {
        under("a LINK has a KIND (0, or 1: against) and a TIME (0 .. 1000)");
        int[][] taken = {{0, 0}, {1, 0}, {0, 1000}, {1, 1000}, {0, 1}, {1, 999}};
        for (int[] one : taken) {
            NetShapes x = plain(3);
            due("taken", x.link(1, 2, one[0], one[1]), 1);
            due("kind", x.linkOf(1, 2, 1), one[0]);
            due("time", x.linkOf(1, 2, 2), one[1]);
            due("of kind 1", x.status(2), one[0]);
        }
        for (int there = 0; there < 2; there++) {
            // A link that is there already, and one that would be new.
            int a = 1 - there;
            int b = there;
            refused(-4, "kind -1", x -> x.link(a, b, -1, 0));
            refused(-6, "kind 2", x -> x.link(a, b, 2, 0));
            refused(-4, "time -1", x -> x.link(a, b, 0, -1));
            refused(-6, "time 1001", x -> x.link(a, b, 0, 1001));
            refused(-4, "kind 2, time -1: what is told first", x -> x.link(a, b, 2, -1));
            refused(-4, "kind -1, time 1001: what is told first", x -> x.link(a, b, -1, 1001));
        }
    }

    private static void numbersOfLinks() {
        under("LINKS are numbered by their first POSTS, then their second ones, as they are now");
        NetShapes firsts = full(16);
        NetShapes seconds = full(16);
        for (int i = 0; i < 240; i++) {
            int from = i / 15;
            int to = i % 15 < from ? i % 15 : i % 15 + 1;
            due("first of " + i, firsts.at(i, 0), from);
            due("second of " + i, seconds.at(i, 1), to);
        }
        due("none after the last", firsts.at(240, 0), -1);
        due("none ahead of the first", seconds.at(-1, 1), -1);
        seconds.cut(0, 1);
        due("one less: the first now", seconds.at(0, 1), 2);
        due("one less: the last now", seconds.at(238, 1), 14);
        due("one less: none after it", seconds.at(239, 1), -1);
        NetShapes x = plain(5, 0, 1, 0, 2, 3, 4);
        x.swap(0, 2);
        dueText("numbers after a swap", netOf(x), "5 posts, 0 to 2 (0 0), 0 to 4 (0 0), 3 to 1 (0 0)");
        x.keep(0);
        x.link(0, 3, 0, 0);
        dueText("one between", netOf(x), "5 posts, 0 to 2 (0 0), 0 to 3 (0 0), 0 to 4 (0 0), 3 to 1 (0 0)");
        x.take(0);
        due("as of the sheet", x.at(1, 1), 4);
        x.posts(5);
        due("no link, no number", x.at(0, 0), -1);
    }

    private static void codesAndPlaces() {
        for (int code = 0; code < 64; code++) {
            NetShapes x = plain(3);
            NetShapes apart = plain(16);
            int[] stand = {15, 3, 9};
            for (int bit = 0; bit < 6; bit++) {
                if ((code >> bit & 1) == 1) {
                    x.link(CODE_FROM[bit], CODE_TO[bit], 0, 0);
                    apart.link(stand[CODE_FROM[bit]], stand[CODE_TO[bit]], 1, 1000);
                }
            }
            for (int i = 0; i < ORDERS.length; i += 3) {
                int p = ORDERS[i];
                int q = ORDERS[i + 1];
                int r = ORDERS[i + 2];
                under("CODE: bits 0 to 5; SHAPE of three POSTS: the least CODE of all their orders");
                due("shape of code " + code, x.shape(p, q, r), SHAPE_OF_CODE[code]);
                due("of posts apart", apart.shape(stand[p], stand[q], stand[r]), SHAPE_OF_CODE[code]);
                under("The PLACE of a POST: the least place at which it stands in some order of the least CODE");
                int place = PLACES_OF_CODE[code].charAt(p) - '0';
                due("place of " + p + " in code " + code, x.place(p, q, r), place);
                due("of posts apart", apart.place(stand[p], stand[q], stand[r]), place);
                due("its post's count", x.countOf(p, SHAPE_OF_CODE[code], place), 1);
            }
        }
        under("shape, place: -1 (also if two are one)");
        for (int none = 0; none < 3; none++) {
            int one = none;
            int other = (none + 1) % 3;
            refused(-1, "shape, first two one", x -> x.shape(one, one, other));
            refused(-1, "shape, last two one", x -> x.shape(other, one, one));
            refused(-1, "shape, outer two one", x -> x.shape(one, other, one));
            refused(-1, "shape, all one", x -> x.shape(one, one, one));
            refused(-1, "place, first two one", x -> x.place(one, one, other));
            refused(-1, "place, last two one", x -> x.place(other, one, one));
            refused(-1, "place, outer two one", x -> x.place(one, other, one));
            refused(-1, "place, all one", x -> x.place(one, one, one));
        }
    }

    private static void sixteenShapes() {
        under("There are 16 SHAPES; they are numbered from 0 on by their least CODES");
        NetShapes x = new NetShapes();
        int codes = 0;
        for (int shape = 0; shape < 16; shape++) {
            due("least code", x.shapeOf(shape, 0), LEAST_CODES[shape]);
            due("its links", x.shapeOf(shape, 2), Integer.bitCount(LEAST_CODES[shape]));
            codes += x.shapeOf(shape, 1);
        }
        due("codes of all shapes", codes, 64);
        for (int shape : new int[] {-1, 16}) {
            refused(-1, "shapeOf of " + shape, y -> y.shapeOf(shape, 0));
            refused(-1, "count of " + shape, y -> y.count(shape));
            refused(-1, "countOf of " + shape, y -> y.countOf(0, shape, 0));
            refused(-1, "mean of " + shape, y -> y.mean(shape, 0));
            refused(-1, "sample of " + shape, y -> y.sample(7, shape, 0));
            refusedOn(NetTest::fixture, -1, 2000000001, "more of " + shape, y -> y.more(shape));
        }
        under("shapeOf: 3 how many PLACES");
        for (int shape = 0; shape < 16; shape++) {
            long places = PLACES_OF_CODE[LEAST_CODES[shape]].chars().distinct().count();
            due("places of " + shape, x.shapeOf(shape, 3), places);
        }
        refused(-2, "what -1", y -> y.shapeOf(0, -1));
        refused(-2, "what 4", y -> y.shapeOf(15, 4));
    }

    private static void countsOfThrees() {
        under("COUNT of a SHAPE: of how many threes it is");
        for (int n = 3; n <= 16; n++) {
            NetShapes empty = plain(n);
            NetShapes full = full(n);
            for (int shape = 0; shape < 16; shape++) {
                due("empty, shape " + shape, empty.count(shape), shape == 0 ? threes(n) : 0);
                due("full, shape " + shape, full.count(shape), shape == 15 ? threes(n) : 0);
            }
        }
        under("POST'S COUNT: of how many threes with this POST it is and the POST has a PLACE (0 .. 2)");
        NetShapes great = full(16);
        due("of the full net", great.countOf(15, 15, 0), 105);
        due("a place that the shape has not", great.countOf(15, 15, 1), 0);
        due("nor the last", great.countOf(15, 15, 2), 0);
        due("of the least net", plain(3).countOf(0, 0, 0), 1);
        NetShapes some = downward(7, 0);
        for (int post = 0; post < 7; post++) {
            int sum = 0;
            for (int shape = 0; shape < 16; shape++) {
                for (int place = 0; place < 3; place++) {
                    sum += some.countOf(post, shape, place);
                }
            }
            due("all of post " + post, sum, 15);
        }
        refused(-2, "place -1", y -> y.countOf(4, 15, -1));
        refused(-2, "place 3", y -> y.countOf(0, 0, 3));
    }

    private static void rolesOfPosts() {
        under("ROLES: POSTS are of one ROLE if all of their POST'S COUNTS are alike; numbered by their least POSTS");
        for (int n : new int[] {3, 16}) {
            NetShapes empty = plain(n);
            NetShapes full = full(n);
            NetShapes ordered = downward(n, 0);
            due("empty", empty.roles(), 1);
            due("full", full.roles(), 1);
            due("each its own", ordered.roles(), n);
            for (int post = 0; post < n; post++) {
                due("empty, " + post, empty.role(post), 0);
                due("full, " + post, full.role(post), 0);
                due("each its own, " + post, ordered.role(post), post);
            }
        }
        NetShapes star = plain(16);
        for (int post = 0; post < 15; post++) {
            star.link(15, post, 0, 0);
        }
        due("star", star.roles(), 2);
        due("its ends have the least post", star.role(14), 0);
        due("its middle is the last", star.role(15), 1);
        NetShapes late = plain(6, 3, 5);
        due("apart", late.role(4), 0);
        due("first of the link", late.role(3), 1);
        due("second of the link", late.role(5), 2);
        late.link(3, 2, 0, 0);
        late.cut(3, 5);
        late.link(3, 4, 0, 0);
        int[] now = {0, 0, 1, 2, 1, 0};
        for (int post = 0; post < 6; post++) {
            due("as the net is now, " + post, late.role(post), now[post]);
        }
    }

    private static void foursTogether() {
        under("FOURS: sets of four POSTS; KINDS of FOURS that HANG TOGETHER");
        for (int kind = 0; kind < 6; kind++) {
            due("three posts have none", full(3).fours(kind), 0);
            due("no links", plain(16).fours(kind), 0);
            due("the full net", full(16).fours(kind), kind == 5 ? 1820 : 0);
        }
        for (int twos = 0; twos < 64; twos++) {
            for (int ways = 0; ways < 3; ways++) {
                NetShapes x = fourOf(twos, ways);
                for (int kind = 0; kind < 6; kind++) {
                    due("twos " + twos + " as kind " + kind, x.fours(kind), KIND_OF_FOUR[twos] == kind ? 1 : 0);
                }
            }
        }
        refused(-2, "kind -1", y -> y.fours(-1));
        refused(-2, "kind 6", y -> y.fours(6));
    }

    /** With links one way (0), the other way (1) or both ways (2). */
    private static NetShapes fourOf(int twos, int ways) {
        NetShapes x = plain(4);
        for (int i = 0; i < 6; i++) {
            if ((twos >> i & 1) == 1 && ways != 1) {
                x.link(TWO_FIRST[i], TWO_SECOND[i], 0, 0);
            }
            if ((twos >> i & 1) == 1 && ways != 0) {
                x.link(TWO_SECOND[i], TWO_FIRST[i], 1, 1);
            }
        }
        return x;
    }

    private static void swapsThatMayBe() {
        under("SWAPS: they become a to d (with KIND and TIME of a to b) and c to b (with those of c to d)");
        NetShapes x = net(4, 0, 1, 1, 1000, 2, 3, 0, 0);
        due("first and second", x.swap(0, 1), 1);
        dueText("first and second", netOf(x), "4 posts, 0 to 3 (1 1000), 2 to 1 (0 0)");
        due("second and first", x.swap(1, 0), 1);
        dueText("second and first", netOf(x), "4 posts, 0 to 1 (1 1000), 2 to 3 (0 0)");
        NetShapes back = net(4, 0, 1, 1, 5, 2, 3, 0, 6, 3, 0, 1, 7, 1, 2, 0, 8, 1, 0, 1, 9, 3, 2, 0, 10);
        // Links are 0 1, 1 0, 1 2, 2 3, 3 0, 3 2: those of d to a and b to c do no harm.
        due("with links the other way", back.swap(0, 3), 1);
        dueText("with links the other way", netOf(back),
            "4 posts, 0 to 3 (1 5), 1 to 0 (1 9), 1 to 2 (0 8), 2 to 1 (0 6), 3 to 0 (1 7), 3 to 2 (0 10)");
        NetShapes last = net(16, 12, 13, 1, 3, 15, 14, 0, 4);
        due("the last posts", last.swap(0, 1), 1);
        dueText("the last posts", netOf(last), "16 posts, 12 to 14 (1 3), 15 to 13 (0 4)");
    }

    private static void swapsThatMayNot() {
        under("SWAPS: with a and c not one, b and d not one, a and d not one, c and b not one, no LINK a to d, none c to b");
        refusedOn(() -> net(4, 0, 1, 1, 5, 0, 2, 0, 6), -3, -3, "a and c one", x -> x.swap(0, 1));
        refusedOn(() -> net(4, 0, 2, 1, 5, 1, 2, 0, 6), -3, -3, "b and d one", x -> x.swap(0, 1));
        refusedOn(() -> net(4, 1, 2, 1, 5, 2, 0, 0, 6), -3, -3, "c and b one", x -> x.swap(0, 1));
        refusedOn(() -> net(4, 1, 2, 1, 5, 2, 0, 0, 6), -3, -3, "a and d one", x -> x.swap(1, 0));
        refusedOn(() -> net(4, 0, 1, 1, 5, 1, 0, 0, 6), -3, -3, "there and back", x -> x.swap(0, 1));
        refusedOn(() -> net(4, 0, 1, 1, 5, 0, 3, 0, 7, 2, 3, 0, 6), -3, -3, "a to d is there", x -> x.swap(0, 2));
        refusedOn(() -> net(4, 0, 1, 1, 5, 2, 1, 0, 7, 2, 3, 0, 6), -3, -3, "c to b is there", x -> x.swap(0, 2));
        refusedOn(() -> full(4), -3, -3, "in the full net", x -> x.swap(0, 11));
        under("swap: -1 (also if they are one)");
        refused(-1, "one, which may not be swapped either", x -> x.swap(0, 0));
        refused(-1, "the last and the last", x -> x.swap(3, 3));
        refused(-1, "the last and none", x -> x.swap(3, 4));
        refused(-1, "none and the first", x -> x.swap(-1, 0));
        refused(-1, "none and none", x -> x.swap(4, 4));
        refusedOn(() -> plain(3), -1, -1, "no links", x -> x.swap(0, 1));
    }

    private static int nextSeed(int seed) {
        return (int) ((seed * 1103515245L + 12345) & 0xFFFFFFFFL);
    }

    private static int drawn(int seed, int below) {
        return (int) ((seed & 0xFFFFFFFFL) / 65536 % below);
    }

    private static void drawsGoRound() {
        under("DRAWS: SEED (an int; 1 at first); an int that goes round");
        int[] seeds = {0, 1, -1, LOW, HIGH};
        int[] afterTwo = {-740551042, -1770082073, 288979989, 1406932606, -1858503659};
        int[] afterThousand = {1268113592, -928224423, -830515689, -879370056, 1316967959};
        for (int i = 0; i < seeds.length; i++) {
            NetShapes x = plain(3, 0, 1, 1, 2);
            due("at first", x.seed(seeds[i]), 1);
            x.mix(1);
            due("two draws from " + seeds[i], x.seed(seeds[i]), afterTwo[i]);
            x.mix(500);
            due("a thousand draws from " + seeds[i], x.seed(1), afterThousand[i]);
        }
        under("DRAWS: its bits from 16 on, without a sign, modulo n");
        // From -1 they are 48697 and 4409, from the least int 32768 and 21468: the first of each has the sign's bit.
        NetShapes below = net(6, 0, 1, 0, 1, 2, 3, 0, 2, 4, 5, 1, 3);
        below.seed(-1);
        due("links 1 and 2", below.mix(1), 1);
        dueText("links 1 and 2", netOf(below), "6 posts, 0 to 1 (0 1), 2 to 5 (0 2), 4 to 3 (1 3)");
        NetShapes least = net(6, 0, 1, 0, 1, 2, 3, 0, 2, 4, 5, 1, 3);
        least.seed(LOW);
        due("links 2 and 0", least.mix(1), 1);
        dueText("links 2 and 0", netOf(least), "6 posts, 0 to 5 (0 1), 2 to 3 (0 2), 4 to 1 (1 3)");
        under("seed: what it was (any int, nothing is refused)");
        NetShapes any = new NetShapes();
        int was = 1;
        for (int seed : new int[] {LOW, LOW + 1, -1, 0, 1, HIGH - 1, HIGH}) {
            due("seed(" + seed + ")", any.seed(seed), was);
            was = seed;
        }
        countsAre("after any seed", any, new int[7]);
    }

    private static void mixingIsDrawnSwaps() {
        under("MIXING by n: n times two LINKS are drawn and SWAPPED if they may be");
        for (int seed : new int[] {1, -5, LOW, HIGH}) {
            NetShapes mixed = downward(9, 0);
            NetShapes byHand = downward(9, 0);
            mixed.seed(seed);
            int now = seed;
            int swaps = 0;
            for (int i = 0; i < 60; i++) {
                int first = nextSeed(now);
                now = nextSeed(first);
                swaps += byHand.swap(drawn(first, 36), drawn(now, 36)) == 1 ? 1 : 0;
            }
            due("mix(60) by seed " + seed, mixed.mix(60), swaps);
            due("the seed then", mixed.seed(1), now);
            dueText("the net then", netOf(mixed), netOf(byHand));
        }
        NetShapes full = full(16);
        full.seed(9);
        due("none may be in the full net", full.mix(500), 0);
        int seed = 9;
        for (int i = 0; i < 1000; i++) {
            seed = nextSeed(seed);
        }
        due("but they are drawn", full.seed(1), seed);
        due("and not counted as refused", full.status(13) + full.status(11), 0);
        due("all links stay", full.status(1), 240);
    }

    private static void mixingBounds() {
        under("mix: MIXING by n (0 .. 500). -4; -6; -3 fewer than 2 LINKS");
        NetShapes x = plain(4, 0, 1, 2, 3);
        due("mix(0)", x.mix(0), 0);
        due("none drawn", x.seed(1), 1);
        holds("mix(500)", x.mix(500) >= 0);
        refused(-4, "mix(-1)", y -> y.mix(-1));
        refused(-6, "mix(501)", y -> y.mix(501));
        for (int links = 0; links < 2; links++) {
            Maker few = links == 0 ? () -> plain(4) : () -> plain(4, 2, 1);
            refusedOn(few, -4, -4, "mix(-1), " + links + " links", y -> y.mix(-1));
            refusedOn(few, -3, -3, "mix(0), " + links + " links", y -> y.mix(0));
            refusedOn(few, -3, -3, "mix(500), " + links + " links", y -> y.mix(500));
            refusedOn(few, -6, -6, "mix(501), " + links + " links", y -> y.mix(501));
        }
        due("two links are enough", plain(3, 0, 1, 1, 0).mix(1), 0);
    }

    private static void meanIs(NetShapes x, int shape, long above, long below) {
        due("above of shape " + shape, x.mean(shape, 0), above);
        due("below of shape " + shape, x.mean(shape, 1), below);
    }

    private static void meansByLot() {
        under("mean: part 0 above, 1 below, without a common divisor (0 is 0 by 1)");
        for (int n = 3; n <= 16; n++) {
            NetShapes empty = plain(n);
            NetShapes full = full(n);
            for (int shape = 0; shape < 16; shape++) {
                meanIs(empty, shape, shape == 0 ? threes(n) : 0, 1);
                meanIs(full, shape, shape == 15 ? threes(n) : 0, 1);
            }
        }
        for (int links = 1; links <= 5; links += 4) {
            NetShapes x = links == 1 ? plain(3, 2, 1) : full(3);
            x.cut(0, 1);
            for (int shape = 0; shape < 16; shape++) {
                meanIs(x, shape, shape == (links == 1 ? 1 : 14) ? 1 : 0, 1);
            }
        }
        under("MEAN of a SHAPE if all LINKS that there are had fallen by lot: a fraction");
        NetShapes one = plain(16, 15, 0);
        meanIs(one, 0, 546, 1);
        meanIs(one, 1, 14, 1);
        meanIs(one, 2, 0, 1);
        NetShapes most = full(16);
        most.cut(7, 8);
        meanIs(most, 15, 546, 1);
        meanIs(most, 14, 14, 1);
        meanIs(most, 13, 0, 1);
        for (int to = 0; to < 5; to++) {
            most.cut(15, to);
        }
        // 234 links: beyond an int.
        meanIs(most, 15, 427496497428L, 890069221);
        NetShapes half = plain(4, 0, 1, 1, 2, 2, 3, 3, 0, 0, 2, 3, 1);
        int[] above = {1, 12, 15, 15, 30, 40, 15, 40, 15, 40, 15, 40, 30, 15, 12, 1};
        int[] below = {231, 77, 77, 77, 77, 77, 77, 77, 77, 77, 77, 231, 77, 77, 77, 231};
        for (int shape = 0; shape < 16; shape++) {
            meanIs(half, shape, above[shape], below[shape]);
        }
        refused(-2, "part -1", y -> y.mean(0, -1));
        refused(-2, "part 2", y -> y.mean(15, 2));
    }

    private static void moreThanMean() {
        under("MORE of a SHAPE: -1, 0, 1 as COUNT is below, at, above MEAN");
        NetShapes one = plain(16, 15, 0);
        NetShapes most = full(16);
        most.cut(7, 8);
        for (int shape = 0; shape < 16; shape++) {
            due("empty, shape " + shape, plain(16).more(shape), 0);
            due("full, shape " + shape, full(16).more(shape), 0);
            due("one link, shape " + shape, one.more(shape), 0);
            due("all but one, shape " + shape, most.more(shape), 0);
        }
        NetShapes ring = plain(3, 0, 1, 1, 2, 2, 0);
        int[] due = {0, 0, 0, 0, 0, -1, 0, -1, 0, -1, 0, 1, 0, 0, 0, 0};
        for (int shape = 0; shape < 16; shape++) {
            due("ring of three, shape " + shape, ring.more(shape), due[shape]);
        }
    }

    private static void chainsWithin() {
        under("CHAINS within W (0 .. 1000): the second at a later TIME, by W at most");
        for (int back = 0; back < 2; back++) {
            int what = 1 - back;
            int end = back == 1 ? 0 : 2;
            NetShapes x = net(3, 0, 1, 0, 0, 1, end, 1, 1000);
            due("by 1000 within 1000", x.chains(1000, what), 1);
            due("by 1000 within 999", x.chains(999, what), 0);
            x.link(1, end, 0, 1);
            due("by 1 within 1", x.chains(1, what), 1);
            due("by 1 within 0", x.chains(0, what), 0);
            x.link(1, end, 0, 0);
            due("at one time within 0", x.chains(0, what), 0);
            due("at one time within 1000", x.chains(1000, what), 0);
            x.link(0, 1, 0, 1000);
            // There and back again the link that was the second is now the first.
            due("the second earlier", x.chains(1000, what), back);
        }
        under("Of these BACK: those whose second goes to where the first came from; ON: others");
        NetShapes hub = plain(16);
        for (int post = 1; post < 16; post++) {
            hub.link(post, 0, 0, 0);
            hub.link(0, post, 1, 1000);
        }
        due("back by the hub", hub.chains(1000, 0), 15);
        due("on by the hub", hub.chains(1000, 1), 210);
        due("on to the first post", net(3, 2, 1, 0, 4, 1, 0, 0, 5).chains(1000, 1), 1);
        due("on to the last post", net(16, 1, 14, 0, 4, 14, 15, 0, 5).chains(1000, 1), 1);
        due("empty, back", plain(16).chains(1000, 0), 0);
        due("empty, on", plain(16).chains(1000, 1), 0);
        due("full at one time, back", full(16).chains(1000, 0), 0);
        due("full at one time, on", full(16).chains(1000, 1), 0);
        under("chains: -2; -4; -6");
        refused(-2, "what -1", y -> y.chains(0, -1));
        refused(-2, "what 2", y -> y.chains(1000, 2));
        refused(-4, "W -1", y -> y.chains(-1, 0));
        refused(-6, "W 1001", y -> y.chains(1001, 1));
        refused(-2, "what ahead of W -1", y -> y.chains(-1, 2));
        refused(-2, "what ahead of W 1001", y -> y.chains(1001, -1));
    }

    private static void burstsWithin() {
        under("BURSTS within W of a POST: greatest less least is W at most");
        NetShapes x = net(4, 0, 1, 0, 0, 0, 2, 1, 500, 0, 3, 0, 1000, 3, 0, 0, 0);
        due("W 0", x.burst(0, 0), 1);
        due("W 499", x.burst(0, 499), 1);
        due("W 500", x.burst(0, 500), 2);
        due("W 999", x.burst(0, 999), 2);
        due("W 1000", x.burst(0, 1000), 3);
        due("links to it are none from it", x.burst(1, 1000), 0);
        due("one from it", x.burst(3, 0), 1);
        NetShapes late = net(3, 1, 0, 0, 400, 1, 2, 0, 900);
        due("late ones, W 499", late.burst(1, 499), 1);
        due("late ones, W 500", late.burst(1, 500), 2);
        due("the empty net", plain(16).burst(15, 1000), 0);
        NetShapes full = full(16);
        due("the full net, at one time", full.burst(0, 0), 15);
        due("of the last post", full.burst(15, 0), 15);
        full.link(15, 0, 0, 1);
        due("all but one", full.burst(15, 0), 14);
        due("all", full.burst(15, 1), 15);
        refused(-4, "W -1", y -> y.burst(0, -1));
        refused(-6, "W 1001", y -> y.burst(0, 1001));
        refused(-1, "post ahead of W -1", y -> y.burst(5, -1));
        refused(-1, "post ahead of W 1001", y -> y.burst(-1, 1001));
    }

    private static void signsOfThrees() {
        under("SIGNS: THREES of which each two are BESIDE one another; one QUARRELS if one or all three are AGAINST");
        for (int against = 0; against < 8; against++) {
            for (int ways = 0; ways < 2; ways++) {
                // With both ways, of which only one is of kind 1, the two is against all the same.
                NetShapes x = net(3, 0, 1, against & 1, 0, 1, 2, against >> 1 & 1, 0, 2, 0, against >> 2, 0);
                if (ways == 1) {
                    x.link(1, 0, 0, 0);
                    x.link(2, 1, 0, 0);
                    x.link(0, 2, 0, 0);
                }
                int quarrels = Integer.bitCount(against) & 1;
                due("quarrels, against " + against, x.signs(1), quarrels);
                due("doesn't, against " + against, x.signs(0), 1 - quarrels);
                x.cut(0, 1);
                due("without one way, " + ways, x.signs(0) + x.signs(1), ways);
            }
        }
        due("empty, quarrel", plain(16).signs(1), 0);
        due("empty, don't", plain(16).signs(0), 0);
        due("full, quarrel", full(16).signs(1), 0);
        due("full, don't", full(16).signs(0), 560);
        due("full and against, quarrel", full(16, 1).signs(1), 560);
        due("full and against, don't", full(16, 1).signs(0), 0);
        refused(-2, "what -1", y -> y.signs(-1));
        refused(-2, "what 2", y -> y.signs(2));
    }

    private static void sidesAre(String what, NetShapes x, int least, int set) {
        due("LEAST, " + what, x.sides(0), least);
        due("SIDES, " + what, x.sides(1), set);
    }

    private static void sidesOfPosts() {
        under("LEAST: found by trying all sides (the first POST on the first); SIDES: of several the least as bits");
        sidesAre("the least net, empty", plain(3), 0, 0);
        sidesAre("the greatest net, empty", plain(16), 0, 0);
        sidesAre("full, none against", full(16), 0, 0);
        sidesAre("three, all against", full(3, 1), 1, 2);
        sidesAre("four, all against", full(4, 1), 2, 6);
        sidesAre("sixteen, all against", full(16, 1), 56, 510);
        sidesAre("against the first", net(3, 1, 0, 1, 0, 2, 0, 1, 0), 0, 6);
        sidesAre("the last against the first", net(16, 15, 0, 1, 0), 0, 32768);
        sidesAre("the last two", net(16, 15, 14, 1, 0), 0, 16384);
        sidesAre("all but the first, against it", plainAgainstFirst(16), 0, 65534);
        sidesAre("one of three", net(3, 0, 1, 0, 0, 1, 2, 1, 0, 2, 0, 0, 0), 1, 0);
        sidesAre("two of three", net(3, 0, 1, 1, 0, 1, 2, 1, 0, 2, 0, 0, 0), 0, 2);
        NetShapes turned = net(3, 0, 1, 1, 0, 0, 2, 0, 0);
        sidesAre("one against", turned, 0, 2);
        turned.link(0, 1, 0, 0);
        sidesAre("as the net is now", turned, 0, 0);
        turned.link(0, 2, 1, 0);
        sidesAre("and another against", turned, 0, 4);
        sidesAre("both ways, one against", net(3, 0, 2, 0, 0, 2, 0, 1, 0), 0, 4);
        refused(-2, "what -1", y -> y.sides(-1));
        refused(-2, "what 2", y -> y.sides(2));
    }

    private static NetShapes plainAgainstFirst(int n) {
        NetShapes x = plain(n);
        for (int post = 1; post < n; post++) {
            x.link(post, 0, 1, 0);
        }
        return x;
    }

    private static void walksOfLength() {
        under("WALKS of LENGTH k (0 .. 60) from a to b: rows of k LINKS (also the same ones again)");
        for (int a = 0; a < 3; a++) {
            for (int b = 0; b < 3; b++) {
                due("no link long, empty", plain(3).walks(a, b, 0, 0), a == b ? 1 : 0);
                due("no link long, full", full(3).walks(a, b, 0, 0), a == b ? 1 : 0);
                due("one link long, empty", plain(3).walks(a, b, 1, 0), 0);
                due("one link long, full", full(3).walks(a, b, 1, 0), a == b ? 0 : 1);
            }
        }
        NetShapes two = plain(3, 0, 1, 1, 0);
        due("the same ones again, 60", two.walks(0, 0, 60, 0), 1);
        due("the same ones again, 59", two.walks(0, 1, 59, 0), 1);
        due("not by an odd way", two.walks(0, 0, 59, 0), 0);
        refused(-4, "length -1", y -> y.walks(0, 0, -1, 0));
        refused(-6, "length 61", y -> y.walks(0, 0, 61, 0));
        under("walks: (In this order: -1, -4, -6, -9.)");
        refused(-1, "post ahead of length -1", y -> y.walks(5, 0, -1, -1));
        refused(-1, "post ahead of length 61", y -> y.walks(0, -1, 61, 99));
        refused(-4, "length -1 ahead of part", y -> y.walks(0, 0, -1, 99));
        refused(-6, "length 61 ahead of part", y -> y.walks(0, 0, 61, -1));
    }

    private static void walkParts(String what, NetShapes x, int a, int b, int length, int... parts) {
        due("part -1, " + what, x.walks(a, b, length, -1), -9);
        for (int part = 0; part < parts.length; part++) {
            due("part " + part + ", " + what, x.walks(a, b, length, part), parts[part]);
        }
        for (int part : new int[] {parts.length, parts.length + 1, 8, 9, 1000, HIGH, LOW}) {
            due("no part " + part + ", " + what, x.walks(a, b, length, part), -9);
        }
    }

    private static void walksInParts() {
        under("told in parts of nine digits each, from the lowest on; -9 there is none such (of 0 WALKS part 0 is 0)");
        walkParts("of 0 walks", plain(3), 0, 1, 60, 0);
        walkParts("of 0 walks of no length", full(16), 0, 1, 0, 0);
        walkParts("of 1", plain(16), 15, 15, 0, 1);
        walkParts("nine digits", full(11), 0, 1, 10, 909090909);
        walkParts("ten digits", full(11), 0, 1, 11, 90909091, 9);
        NetShapes star = plain(11);
        for (int post = 1; post < 11; post++) {
            star.link(0, post, 0, 0);
            star.link(post, 0, 0, 0);
        }
        walkParts("10 to 8", star, 0, 0, 16, 100000000);
        walkParts("10 to 9", star, 0, 0, 18, 0, 1);
        walkParts("10 to 18", star, 0, 0, 36, 0, 0, 1);
        walkParts("10 to 30", star, 0, 0, 60, 0, 0, 0, 1000);
        walkParts("three posts, 60", full(3), 0, 0, 60, 202282326, 384307168);
        walkParts("four posts, 60", full(4), 3, 2, 60, 573608300, 804050878, 597789568, 10);
        walkParts("sixteen posts, 59", full(16), 15, 0, 59,
            78491211, 80430746, 333750931, 701244721, 498333802, 923083737, 952987220, 153201);
        walkParts("the most walks of all", full(16), 15, 15, 60,
            177368165, 206461191, 6263966, 518670820, 475007040, 846256062, 294808313, 2298029);
        NetShapes x = plain(3);
        x.walks(0, 1, 60, 1);
        x.walks(0, 1, 60, -1);
        countsAre("after -9", x, new int[7]);
    }

    private static void sampleIs(NetShapes x, int set, int shape, int above, int below) {
        due("above of shape " + shape + " in " + set, x.sample(set, shape, 0), above);
        due("below of shape " + shape + " in " + set, x.sample(set, shape, 1), below);
    }

    private static void samplesOfPosts() {
        under("SAMPLE: a set of POSTS (3 or more): of a SHAPE the threes in it, times all threes by its threes");
        NetShapes ring = plain(16, 0, 1, 1, 2, 2, 0);
        sampleIs(ring, 7, 11, 560, 1);
        sampleIs(ring, 7, 0, 0, 1);
        sampleIs(ring, 15, 11, 140, 1);
        sampleIs(ring, 32767, 11, 16, 13);
        sampleIs(ring, 65535, 11, 1, 1);
        sampleIs(ring, 65535, 1, 39, 1);
        sampleIs(ring, 57344, 0, 560, 1);
        sampleIs(ring, 32769 + 2, 1, 560, 1);
        NetShapes least = full(3);
        for (int shape = 0; shape < 16; shape++) {
            sampleIs(least, 7, shape, shape == 15 ? 1 : 0, 1);
            sampleIs(full(16), 65535, shape, shape == 15 ? 560 : 0, 1);
        }
        under("sample: -1 SHAPE, other bits; -3 fewer than 3; -2");
        for (int size = 3; size <= 16; size++) {
            int n = size;
            int next = 1 << n;
            Maker maker = () -> plain(n, 0, 1);
            due("all posts of " + n, maker.make().sample(next - 1, 0, 1), 1);
            refusedOn(maker, -1, -1, "the next bit of " + n, x -> x.sample(next, 0, 0));
            refusedOn(maker, -1, -1, "the next bit and others of " + n, x -> x.sample(next + 7, 0, 0));
            refusedOn(maker, -1, -1, "the sign of " + n, x -> x.sample(LOW + 7, 0, 0));
            refusedOn(maker, -1, -1, "all bits of " + n, x -> x.sample(-1, 0, 0));
            refusedOn(maker, -3, -3, "two of " + n, x -> x.sample(next / 2 + 1, 0, 0));
        }
        refused(-3, "none", x -> x.sample(0, 0, 0));
        refused(-3, "one", x -> x.sample(16, 0, 0));
        refused(-3, "two, another part", x -> x.sample(3, 0, 2));
        refused(-1, "two and other bits", x -> x.sample(32 + 3, 0, 2));
        refused(-1, "two, another shape", x -> x.sample(3, 16, 2));
        refused(-2, "part -1", x -> x.sample(7, 0, -1));
        refused(-2, "part 2", x -> x.sample(31, 15, 2));
    }

    private static void sheetsMissingAndHeld() {
        under("SHEETS 0 to 3 are MISSING (at first)");
        for (int sheet = 0; sheet < SHEETS; sheet++) {
            int s = sheet;
            refusedOn(NetShapes::new, -5, -5, "take " + s, x -> x.take(s));
            refusedOn(NetShapes::new, -5, -5, "lose " + s, x -> x.lose(s));
            refusedOn(NetShapes::new, -5, -5, "far " + s, x -> x.far(s));
            NetShapes x = new NetShapes();
            due("keep of no links", x.keep(s), 0);
            due("one is there", x.status(4), 1);
            due("take of no links", x.take(s), 0);
            due("far of no links", x.far(s), 0);
            due("lose", x.lose(s), 1);
            due("none is there", x.status(4), 0);
            due("lost", x.lose(s), -5);
            due("take of what is lost", x.take(s), -5);
            due("far of what is lost", x.far(s), -5);
            due("kept again", x.keep(s), 0);
        }
        under("-1 NOBODY: no such SHEET");
        for (int none : new int[] {-1, 4}) {
            refused(-1, "keep " + none, x -> x.keep(none));
            refused(-1, "take " + none, x -> x.take(none));
            refused(-1, "lose " + none, x -> x.lose(none));
            refused(-1, "far " + none, x -> x.far(none));
        }
        under("SHEETS hold a NET (n, LINKS, KINDS, TIMES)");
        NetShapes x = new NetShapes();
        int[] sizes = {3, 16, 6, 5};
        String[] told = new String[SHEETS];
        for (int sheet = 0; sheet < SHEETS; sheet++) {
            x.posts(sizes[sheet]);
            x.link(sizes[sheet] - 1, sheet % 2, sheet % 2, 1000 - sheet);
            told[sheet] = sizes[sheet] + " posts, " + (sizes[sheet] - 1) + " to " + sheet % 2
                + " (" + sheet % 2 + " " + (1000 - sheet) + ")";
            due("keep", x.keep(sheet), 1);
            due("sheets", x.status(4), sheet + 1);
        }
        x.link(0, 1, 1, 1);
        x.seed(5);
        x.role(-1);
        for (int sheet = SHEETS - 1; sheet >= 0; sheet--) {
            due("take", x.take(sheet), 1);
            dueText("what is taken", netOf(x), told[sheet]);
            x.link(0, 2, 1, 1);
            x.cut(0, 2);
            x.link(1, 2, 1, 1);
        }
        due("all are there still", x.status(4), SHEETS);
        x.link(2, 0, 1, 7);
        x.link(2, 0, 0, 8);
        dueText("kind and time of a link that changed come again", x.take(0) + " " + netOf(x), "1 " + told[0]);
        due("no seed is kept", x.seed(1), 5);
        due("nor refusals", x.status(11), 1);
        dueText("what was taken and changed stays on its sheet", x.take(0) + " " + netOf(x), "1 " + told[0]);
        NetShapes great = full(16, 1);
        due("keep of the full net", great.keep(3), 240);
        great.posts(3);
        due("take of the full net", great.take(3), 240);
        due("its kinds", great.status(2), 240);
        due("its last post", great.linkOf(15, 14, 1), 1);
    }

    private static void farFromSheets() {
        under("FAR of THE NET and a SHEET: the sum over SHAPES of by how much their COUNTS differ");
        NetShapes x = plain(16);
        x.keep(0);
        due("itself", x.far(0), 0);
        for (int i = 0; i < 256; i++) {
            if (i / 16 != i % 16) {
                x.link(i / 16, i % 16, 0, 0);
            }
        }
        due("full and empty", x.far(0), 1120);
        x.keep(1);
        x.take(0);
        due("empty and full", x.far(1), 1120);
        x.posts(3);
        due("least and greatest, both empty", x.far(0), 559);
        due("least, empty, and greatest, full", x.far(1), 561);
        NetShapes kinds = net(3, 0, 1, 0, 0);
        kinds.keep(2);
        kinds.posts(3);
        kinds.link(2, 0, 1, 1000);
        due("kinds, times and which posts do not count", kinds.far(2), 0);
    }

    private static void refusalsAreCounted() {
        under("REFUSALS: nothing changes but how many there were");
        NetShapes x = fixture();
        int[] want = new int[7];
        for (int round = 1; round <= 5; round++) {
            x.role(5);
            x.fours(6);
            x.cut(1, 0);
            x.posts(2);
            x.take(1);
            x.mix(501);
            x.mean(16, 0);
            x.more(16);
            want[1] += 3;
            for (int i = 2; i <= 6; i++) {
                want[i]++;
            }
            countsAre("in round " + round, x, want);
        }
        x.posts(16);
        countsAre("after posts", x, want);
        x.keep(1);
        x.take(0);
        x.lose(0);
        x.seed(1);
        x.mix(500);
        countsAre("after calls that are not refused", x, want);
        dueText("what is held", netOf(x).substring(0, 7), "5 posts");
        NetShapes other = new NetShapes();
        countsAre("of another object", other, new int[7]);
    }

    private static void refusalsOfSignedAnswers() {
        under("Of answers that may be below 0 REFUSALS are 2000000000 less them (of longs: they are as told)");
        refusedOn(NetTest::fixture, -1, 2000000001L, "more(-1)", x -> x.more(-1));
        refusedOn(NetTest::fixture, -1, 2000000001L, "more(16)", x -> x.more(16));
        refused(-1, "mean(16, 0)", x -> x.mean(16, 0));
        refused(-2, "mean(0, 2)", x -> x.mean(0, 2));
    }

    private static void aNewObject() {
        under("NetShapes(): n 6, no LINKS");
        NetShapes x = new NetShapes();
        int[] want = {6, 0, 0, 0, 0, 0, 0};
        for (int what = 0; what < want.length; what++) {
            due("status(" + what + ")", x.status(what), want[what]);
        }
        countsAre("at first", x, new int[7]);
        for (int i = 0; i < 36; i++) {
            if (i / 6 != i % 6) {
                due("no link", x.linkOf(i / 6, i % 6, 0), 0);
            }
        }
        dueText("all that it holds", spend(new NetShapes()),
            "[net 6 posts, seed 1, sheet 0 missing, sheet 1 missing, sheet 2 missing, sheet 3 missing]");
    }

    private static void linkAnswers() {
        under("link: 1; 0 if there was one between these (its KIND and TIME change all the same)");
        NetShapes x = plain(3);
        due("it comes", x.link(2, 0, 1, 1000), 1);
        due("again, the same", x.link(2, 0, 1, 1000), 0);
        due("another kind", x.link(2, 0, 0, 1000), 0);
        dueText("its kind", netOf(x), "3 posts, 2 to 0 (0 1000)");
        due("another time", x.link(2, 0, 0, 0), 0);
        dueText("its time", netOf(x), "3 posts, 2 to 0 (0 0)");
        due("both", x.link(2, 0, 1, 1), 0);
        dueText("both", netOf(x), "3 posts, 2 to 0 (1 1)");
        due("the other way it comes", x.link(0, 2, 0, 2), 1);
        dueText("both ways", netOf(x), "3 posts, 0 to 2 (0 2), 2 to 0 (1 1)");
        x.cut(2, 0);
        due("after a cut it comes", x.link(2, 0, 0, 3), 1);
    }

    private static void cutAnswers() {
        under("cut: A LINK goes: 1. -1; -3 there is none");
        NetShapes x = net(16, 15, 14, 1, 9, 14, 15, 0, 8);
        due("the last", x.cut(15, 14), 1);
        dueText("the other way stays", netOf(x), "16 posts, 14 to 15 (0 8)");
        due("again", x.cut(15, 14), -3);
        due("the other way", x.cut(14, 15), 1);
        due("none is left", x.status(1), 0);
        refusedOn(() -> plain(3), -3, -3, "in the empty net", y -> y.cut(0, 1));
        refused(-3, "only the other way", y -> y.cut(1, 0));
        refused(-1, "with itself, where there is none either", y -> y.cut(2, 2));
    }

    private static void linkOfNone() {
        under("linkOf: 0 1 if there is, 1 KIND, 2 TIME (0). -1; -2");
        NetShapes x = net(3, 0, 1, 1, 1000);
        int[] want = {1, 1, 1000};
        for (int what = 0; what < 3; what++) {
            due("there, what " + what, x.linkOf(0, 1, what), want[what]);
            due("none the other way, what " + what, x.linkOf(1, 0, what), 0);
        }
        x.cut(0, 1);
        for (int what = 0; what < 3; what++) {
            due("none any more, what " + what, x.linkOf(0, 1, what), 0);
        }
        refused(-2, "what -1", y -> y.linkOf(0, 1, -1));
        refused(-2, "what 3", y -> y.linkOf(0, 1, 3));
        refused(-2, "what 3 of none", y -> y.linkOf(1, 0, 3));
        refused(-1, "with itself, what 3", y -> y.linkOf(0, 0, 3));
        under("at: 0, 1 its POSTS. -1; -2");
        refused(-2, "what -1", y -> y.at(0, -1));
        refused(-2, "what 2", y -> y.at(3, 2));
        refused(-1, "no link, what 2", y -> y.at(4, 2));
    }

    private static void statusOfAnotherWhat() {
        under("status: 0 n, 1 LINKS .. 6 to POST 0, 11 .. 16 REFUSALS -1 .. -6. -9 for another what");
        NetShapes x = net(16, 0, 1, 1, 0, 0, 15, 0, 0, 1, 0, 0, 0, 7, 0, 1, 0, 8, 0, 1, 0, 14, 15, 1, 0);
        x.keep(3);
        int[] want = {16, 6, 4, 5, 1, 2, 3};
        for (int what = 0; what < want.length; what++) {
            due("status(" + what + ")", x.status(what), want[what]);
        }
        for (int what : new int[] {LOW, -9, -1, 7, 8, 9, 10, 17, 18, HIGH}) {
            due("status(" + what + ")", x.status(what), -9);
        }
        for (int what = 11; what <= 16; what++) {
            due("none refused, also not by -9: status(" + what + ")", x.status(what), 0);
        }
        NetShapes full = full(16, 1);
        int[] most = {16, 240, 240, 120, 0, 15, 15};
        for (int what = 0; what < most.length; what++) {
            due("status(" + what + ") of the full net", full.status(what), most[what]);
        }
    }
}
