/**
 * One method for each promise of the document: ordinary inputs, the edges that it names, and each refusal. Answers are
 * written out, worked out by hand from the document. Each refusal is made on a net of its own, of which is looked at
 * that nothing changed but how many refusals there were.
 */
public final class PromiseTests extends NetTest {

    public static void main(String[] args) {
        newObject();
        posts();
        link();
        cut();
        linkOf();
        at();
        shape();
        shapeOf();
        place();
        count();
        countOf();
        role();
        roles();
        fours();
        seed();
        swap();
        mix();
        mean();
        more();
        chains();
        burst();
        signs();
        sides();
        walks();
        sample();
        keep();
        take();
        lose();
        far();
        status();
        end();
    }

    private static void begin(int number, String name) {
        under("promise " + number + " (" + name + ")");
    }

    private static void newObject() {
        begin(1, "a new object");
        NetShapes x = new NetShapes();
        due("n", x.status(0), 6);
        due("links", x.status(1), 0);
        due("links of kind 1", x.status(2), 0);
        due("sheets", x.status(4), 0);
        due("threes of shape 0", x.count(0), 20);
        due("post 5 is there", x.link(0, 5, 0, 0), 1);
        due("post 6 is not", x.link(0, 6, 0, 0), -1);
        due("seed", x.seed(2), 1);
        for (int i = 2; i <= 6; i++) {
            due("refusals -" + i, x.status(10 + i), 0);
        }
        NetShapes y = new NetShapes();
        due("another object has its own net", y.status(1), 0);
        due("and its own refusals", y.status(11), 0);
        due("and its own seed", y.seed(3), 1);
    }

    private static void posts() {
        begin(2, "posts");
        NetShapes x = fixture();
        due("posts(3)", x.posts(3), 5);
        due("n", x.status(0), 3);
        due("links", x.status(1), 0);
        due("kind 1", x.status(2), 0);
        due("posts(16)", x.posts(16), 3);
        due("posts(16) again", x.posts(16), 16);
        x.link(0, 15, 1, 9);
        due("posts(16) takes the links away", x.posts(16), 16);
        due("links", x.status(1), 0);
        due("time of none", x.linkOf(0, 15, 2), 0);
        due("sheets stay", x.status(4), 1);
        due("and what they hold", x.take(0), 4);
        due("the seed stays", x.seed(1), 77);
        refused(-4, "posts(2)", y -> y.posts(2));
        refused(-4, "posts(least int)", y -> y.posts(LOW));
        refused(-6, "posts(17)", y -> y.posts(17));
        refused(-6, "posts(greatest int)", y -> y.posts(HIGH));
    }

    private static void link() {
        begin(3, "link");
        NetShapes x = plain(4);
        due("a link comes", x.link(0, 1, 1, 1000), 1);
        due("the other way is another link", x.link(1, 0, 0, 0), 1);
        due("again", x.link(0, 1, 0, 5), 0);
        due("its kind changed", x.linkOf(0, 1, 1), 0);
        due("its time changed", x.linkOf(0, 1, 2), 5);
        due("again as it is", x.link(0, 1, 0, 5), 0);
        due("again, against", x.link(0, 1, 1, 5), 0);
        due("its kind", x.linkOf(0, 1, 1), 1);
        due("the other one's kind", x.linkOf(1, 0, 1), 0);
        due("links", x.status(1), 2);
        due("the last posts", x.link(3, 2, 0, 1), 1);
        refused(-1, "a post below", y -> y.link(-1, 0, 0, 0));
        refused(-1, "a post above", y -> y.link(0, 5, 0, 0));
        refused(-1, "with itself", y -> y.link(2, 2, 0, 0));
        refused(-1, "far posts", y -> y.link(LOW, HIGH, 0, 0));
        refused(-1, "post ahead of all", y -> y.link(5, 0, -1, 1001));
        refused(-4, "kind below", y -> y.link(0, 1, -1, 0));
        refused(-4, "time below", y -> y.link(0, 1, 0, -1));
        refused(-4, "below ahead of above, time", y -> y.link(0, 1, 2, -1));
        refused(-4, "below ahead of above, kind", y -> y.link(0, 1, -1, 1001));
        refused(-6, "kind above", y -> y.link(0, 1, 2, 0));
        refused(-6, "time above", y -> y.link(0, 1, 0, 1001));
        refused(-6, "a new link's time above", y -> y.link(4, 3, 0, HIGH));
    }

    private static void cut() {
        begin(4, "cut");
        NetShapes x = fixture();
        due("cut(1, 2)", x.cut(1, 2), 1);
        due("links", x.status(1), 3);
        due("kind 1", x.status(2), 1);
        due("there", x.linkOf(1, 2, 0), 0);
        due("its kind", x.linkOf(1, 2, 1), 0);
        due("its time", x.linkOf(1, 2, 2), 0);
        due("again", x.cut(1, 2), -3);
        due("it comes again", x.link(1, 2, 0, 3), 1);
        due("of its new kind", x.linkOf(1, 2, 1), 0);
        NetShapes both = plain(3, 0, 1, 1, 0);
        due("one of two ways", both.cut(0, 1), 1);
        due("the other stays", both.linkOf(1, 0, 0), 1);
        refused(-1, "post below", y -> y.cut(-1, 0));
        refused(-1, "post above", y -> y.cut(0, 5));
        refused(-1, "with itself", y -> y.cut(0, 0));
        refused(-1, "far posts", y -> y.cut(HIGH, LOW));
        refused(-3, "none", y -> y.cut(0, 4));
        refused(-3, "only the other way", y -> y.cut(1, 0));
    }

    private static void linkOf() {
        begin(5, "linkOf");
        NetShapes x = fixture();
        due("there", x.linkOf(1, 2, 0), 1);
        due("kind", x.linkOf(1, 2, 1), 1);
        due("time", x.linkOf(1, 2, 2), 8);
        due("kind 0", x.linkOf(0, 1, 1), 0);
        due("greatest time", x.linkOf(3, 4, 2), 1000);
        due("none there", x.linkOf(2, 1, 0), 0);
        due("none's kind", x.linkOf(2, 1, 1), 0);
        due("none's time", x.linkOf(2, 1, 2), 0);
        refused(-1, "post below", y -> y.linkOf(-1, 1, 0));
        refused(-1, "post above", y -> y.linkOf(1, 5, 0));
        refused(-1, "with itself", y -> y.linkOf(3, 3, 0));
        refused(-1, "post ahead of what", y -> y.linkOf(0, 5, 3));
        refused(-2, "what above", y -> y.linkOf(0, 1, 3));
        refused(-2, "what below", y -> y.linkOf(0, 1, -1));
        refused(-2, "what of none", y -> y.linkOf(1, 0, HIGH));
    }

    private static void at() {
        begin(6, "at");
        NetShapes x = plain(16, 15, 0, 0, 15, 3, 9, 3, 2, 0, 1);
        int[] ordered = {0, 1, 0, 15, 3, 2, 3, 9, 15, 0};
        for (int i = 0; i < 5; i++) {
            due("first of " + i, x.at(i, 0), ordered[2 * i]);
            due("second of " + i, x.at(i, 1), ordered[2 * i + 1]);
        }
        due("none so high", x.at(5, 0), -1);
        x.cut(0, 15);
        due("numbers as they are now", x.at(1, 0), 3);
        due("and its second", x.at(1, 1), 2);
        x.link(2, 14, 0, 0);
        due("one comes between", x.at(1, 1), 14);
        refused(-1, "below", y -> y.at(-1, 0));
        refused(-1, "above", y -> y.at(4, 0));
        refused(-1, "far", y -> y.at(HIGH, 1));
        refused(-1, "link ahead of what", y -> y.at(4, 2));
        refused(-2, "what above", y -> y.at(0, 2));
        refused(-2, "what below", y -> y.at(3, -1));
        refusedOn(() -> plain(3), -1, -1, "no links at all", y -> y.at(0, 0));
    }

    private static void shape() {
        begin(7, "shape");
        due("none", plain(3).shape(0, 1, 2), 0);
        due("one link", plain(3, 2, 1).shape(0, 1, 2), 1);
        due("two from one", plain(3, 1, 0, 1, 2).shape(0, 1, 2), 2);
        due("both ways", plain(3, 1, 2, 2, 1).shape(0, 1, 2), 3);
        due("on", plain(3, 2, 0, 0, 1).shape(0, 1, 2), 4);
        due("both ways and out", plain(3, 1, 2, 2, 1, 1, 0).shape(0, 1, 2), 5);
        due("two to one", plain(3, 0, 1, 2, 1).shape(0, 1, 2), 6);
        due("across", plain(3, 0, 1, 0, 2, 1, 2).shape(0, 1, 2), 7);
        due("two both ways", plain(3, 1, 2, 2, 1, 0, 1, 1, 0).shape(0, 1, 2), 10);
        due("both ways, both to one", plain(3, 1, 2, 2, 1, 1, 0, 2, 0).shape(0, 1, 2), 8);
        due("both ways and in", plain(3, 1, 2, 2, 1, 0, 1).shape(0, 1, 2), 9);
        due("ring", plain(3, 0, 1, 1, 2, 2, 0).shape(0, 1, 2), 11);
        due("ring with one both ways", plain(3, 0, 1, 1, 2, 2, 0, 1, 0).shape(0, 1, 2), 12);
        due("one to both of both ways", plain(3, 0, 1, 0, 2, 1, 2, 2, 1).shape(0, 1, 2), 13);
        due("five", plain(3, 0, 1, 0, 2, 1, 2, 2, 1, 1, 0).shape(0, 1, 2), 14);
        due("all", full(3).shape(0, 1, 2), 15);
        NetShapes x = plain(16, 15, 7, 7, 3);
        int[] three = {15, 7, 3};
        for (int p = 0; p < 3; p++) {
            for (int q = 0; q < 3; q++) {
                if (p != q) {
                    due("any order", x.shape(three[p], three[q], three[3 - p - q]), 4);
                }
            }
        }
        refused(-1, "first below", y -> y.shape(-1, 1, 2));
        refused(-1, "second above", y -> y.shape(0, 5, 2));
        refused(-1, "third far", y -> y.shape(0, 1, HIGH));
        refused(-1, "first two one", y -> y.shape(1, 1, 2));
        refused(-1, "last two one", y -> y.shape(0, 2, 2));
        refused(-1, "outer two one", y -> y.shape(2, 0, 2));
    }

    private static void shapeOf() {
        begin(8, "shapeOf");
        int[] least = {0, 1, 3, 5, 6, 7, 10, 11, 15, 21, 23, 25, 27, 30, 31, 63};
        int[] codes = {1, 6, 3, 3, 6, 6, 3, 6, 3, 6, 3, 2, 6, 3, 6, 1};
        int[] links = {0, 1, 2, 2, 2, 3, 2, 3, 4, 3, 4, 3, 4, 4, 5, 6};
        int[] places = {1, 3, 2, 2, 3, 3, 2, 3, 2, 3, 2, 1, 3, 2, 3, 1};
        NetShapes x = fixture();
        for (int shape = 0; shape < 16; shape++) {
            due("least code of " + shape, x.shapeOf(shape, 0), least[shape]);
            due("codes of " + shape, x.shapeOf(shape, 1), codes[shape]);
            due("links of " + shape, x.shapeOf(shape, 2), links[shape]);
            due("places of " + shape, x.shapeOf(shape, 3), places[shape]);
        }
        refused(-1, "below", y -> y.shapeOf(-1, 0));
        refused(-1, "above", y -> y.shapeOf(16, 0));
        refused(-1, "far", y -> y.shapeOf(LOW, 0));
        refused(-1, "shape ahead of what", y -> y.shapeOf(16, 4));
        refused(-2, "what above", y -> y.shapeOf(15, 4));
        refused(-2, "what below", y -> y.shapeOf(0, -1));
    }

    private static void place() {
        begin(9, "place");
        NetShapes on = plain(3, 2, 0, 0, 1);
        // Least code 6 is p to r, q to p: p is the middle, q the first, r the last.
        due("middle", on.place(0, 1, 2), 0);
        due("first", on.place(2, 0, 1), 1);
        due("last", on.place(1, 2, 0), 2);
        due("the order of the others is free", on.place(1, 0, 2), 2);
        NetShapes in = plain(3, 0, 1, 2, 1);
        // Least code 10 is p to r, q to r: p and q have one place.
        due("first of two", in.place(0, 1, 2), 0);
        due("second of two", in.place(2, 1, 0), 0);
        due("to which both go", in.place(1, 2, 0), 2);
        NetShapes out = plain(3, 1, 0, 1, 2);
        // Least code 3 is p to q, p to r: q and r have one place.
        due("from which both go", out.place(1, 0, 2), 0);
        due("one of two", out.place(0, 1, 2), 1);
        due("other of two", out.place(2, 1, 0), 1);
        NetShapes ring = plain(3, 0, 1, 1, 2, 2, 0);
        due("ring", ring.place(2, 0, 1), 0);
        NetShapes other = plain(16, 13, 15);
        due("one link's first", other.place(13, 15, 14), 0);
        due("one link's second", other.place(15, 14, 13), 1);
        due("the third", other.place(14, 13, 15), 2);
        refused(-1, "first below", y -> y.place(-1, 1, 2));
        refused(-1, "second above", y -> y.place(0, 5, 2));
        refused(-1, "third far", y -> y.place(0, 1, LOW));
        refused(-1, "first two one", y -> y.place(1, 1, 2));
        refused(-1, "last two one", y -> y.place(0, 2, 2));
        refused(-1, "outer two one", y -> y.place(2, 0, 2));
    }

    private static void count() {
        begin(10, "count");
        NetShapes x = fixture();
        // Of 5 posts in a ring of three and a link beside it: the ring, nine with one link.
        due("rings", x.count(11), 1);
        due("one link", x.count(1), 9);
        due("none", x.count(0), 0);
        due("all", full(16).count(15), 560);
        due("empty", plain(16).count(0), 560);
        due("least net", plain(3).count(0), 1);
        refused(-1, "below", y -> y.count(-1));
        refused(-1, "above", y -> y.count(16));
        refused(-1, "far", y -> y.count(HIGH));
    }

    private static void countOf() {
        begin(11, "countOf");
        NetShapes x = fixture();
        due("in the ring", x.countOf(0, 11, 0), 1);
        due("ring has no place 1", x.countOf(0, 11, 1), 0);
        due("first of a link, with others", x.countOf(0, 1, 0), 2);
        due("second of a link", x.countOf(0, 1, 1), 2);
        due("apart", x.countOf(0, 1, 2), 1);
        due("3 is first", x.countOf(3, 1, 0), 3);
        due("3 is never second", x.countOf(3, 1, 1), 0);
        due("3 is apart", x.countOf(3, 1, 2), 3);
        due("greatest net", full(16).countOf(15, 15, 0), 105);
        NetShapes star = plain(5, 0, 1, 0, 2, 0, 3, 0, 4);
        due("star's middle", star.countOf(0, 2, 0), 6);
        due("star's ends", star.countOf(3, 2, 1), 3);
        due("no such place", star.countOf(3, 2, 2), 0);
        refused(-1, "post below", y -> y.countOf(-1, 0, 0));
        refused(-1, "post above", y -> y.countOf(5, 0, 0));
        refused(-1, "shape below", y -> y.countOf(0, -1, 0));
        refused(-1, "shape above", y -> y.countOf(0, 16, 0));
        refused(-1, "post ahead of place", y -> y.countOf(5, 0, 3));
        refused(-1, "shape ahead of place", y -> y.countOf(0, 16, 3));
        refused(-2, "place above", y -> y.countOf(0, 0, 3));
        refused(-2, "place below", y -> y.countOf(0, 0, -1));
    }

    private static void role() {
        begin(12, "role");
        NetShapes x = fixture();
        int[] want = {0, 0, 0, 1, 2};
        for (int post = 0; post < 5; post++) {
            due("role of " + post, x.role(post), want[post]);
        }
        NetShapes star = plain(6, 2, 0, 2, 1, 2, 3, 2, 5);
        int[] ends = {0, 0, 1, 0, 2, 0};
        for (int post = 0; post < 6; post++) {
            due("star's " + post, star.role(post), ends[post]);
        }
        NetShapes turned = plain(6, 0, 1, 0, 2, 0, 4);
        turned.role(0);
        int[] others = {0, 1, 1, 2, 1, 2};
        for (int post = 0; post < 6; post++) {
            due("turned star's " + post, turned.role(post), others[post]);
        }
        turned.posts(6);
        due("roles are found anew", turned.role(5), 0);
        due("no links", plain(16).role(15), 0);
        refused(-1, "below", y -> y.role(-1));
        refused(-1, "above", y -> y.role(5));
        refused(-1, "far", y -> y.role(HIGH));
    }

    private static void roles() {
        begin(13, "roles");
        due("fixture", fixture().roles(), 3);
        due("no links", plain(16).roles(), 1);
        due("all", full(16).roles(), 1);
        due("one link", plain(3, 0, 1).roles(), 3);
        due("two to one", plain(3, 0, 1, 2, 1).roles(), 2);
        NetShapes row = downward(16, 0);
        due("each its own", row.roles(), 16);
        due("the last one's", row.role(15), 15);
    }

    private static void fours() {
        begin(14, "fours");
        int[][] nets = {{0, 1, 1, 2, 2, 3}, {0, 1, 2, 0, 0, 3}, {0, 1, 1, 2, 2, 3, 3, 0}, {0, 1, 1, 2, 2, 0, 2, 3},
            {0, 1, 1, 2, 2, 3, 3, 0, 0, 2}, {0, 1, 1, 2, 2, 3, 3, 0, 0, 2, 1, 3}};
        for (int kind = 0; kind < 6; kind++) {
            NetShapes x = plain(4, nets[kind]);
            for (int asked = 0; asked < 6; asked++) {
                due("net " + kind + " as kind " + asked, x.fours(asked), asked == kind ? 1 : 0);
            }
        }
        NetShapes apart = plain(4, 0, 1, 1, 2, 2, 0);
        due("a three and one apart is no row", apart.fours(0), 0);
        due("nor a star", apart.fours(1), 0);
        NetShapes twos = plain(4, 0, 1, 1, 0, 2, 3);
        due("two twos are no row", twos.fours(0), 0);
        NetShapes ways = plain(4, 0, 1, 1, 0, 1, 2, 2, 1, 3, 2);
        due("both ways are one two", ways.fours(0), 1);
        due("too few posts", full(3).fours(5), 0);
        due("all fours", full(16).fours(5), 1820);
        due("stars", plain(6, 0, 1, 0, 2, 3, 0, 4, 0, 0, 5).fours(1), 10);
        refused(-2, "below", y -> y.fours(-1));
        refused(-2, "above", y -> y.fours(6));
        refused(-2, "far", y -> y.fours(LOW));
    }

    private static void seed() {
        begin(15, "seed");
        NetShapes x = plain(3, 0, 1, 1, 2);
        due("at first", x.seed(LOW), 1);
        due("least int", x.seed(HIGH), LOW);
        due("greatest int", x.seed(-1), HIGH);
        due("-1", x.seed(1), -1);
        x.mix(1);
        // 1 times 1103515245 and 12345 is 1103527590; that again goes round to 2524885223 less 2 to the power of 32.
        due("two draws", x.seed(0), (int) 2524885223L);
        for (int what = 11; what <= 16; what++) {
            due("nothing refused", x.status(what), 0);
        }
    }

    private static void swap() {
        begin(16, "swap");
        NetShapes x = net(4, 0, 1, 0, 5, 2, 3, 1, 6);
        due("swap", x.swap(0, 1), 1);
        due("first gone", x.linkOf(0, 1, 0), 0);
        due("second gone", x.linkOf(2, 3, 0), 0);
        due("first's new one", x.linkOf(0, 3, 0), 1);
        due("its kind", x.linkOf(0, 3, 1), 0);
        due("its time", x.linkOf(0, 3, 2), 5);
        due("second's new one", x.linkOf(2, 1, 0), 1);
        due("its kind", x.linkOf(2, 1, 1), 1);
        due("its time", x.linkOf(2, 1, 2), 6);
        due("links", x.status(1), 2);
        due("back, the other way round", x.swap(1, 0), 1);
        due("as it was", x.linkOf(2, 3, 2), 6);
        NetShapes y = fixture();
        // 0 to 1 and 3 to 4 become 0 to 4 and 3 to 1.
        due("in the fixture", y.swap(0, 3), 1);
        due("0 to 4", y.linkOf(0, 4, 2), 7);
        due("3 to 1", y.linkOf(3, 1, 2), 1000);
        due("3 to 1 is against", y.linkOf(3, 1, 1), 1);
        refused(-1, "first below", z -> z.swap(-1, 0));
        refused(-1, "second above", z -> z.swap(0, 4));
        refused(-1, "one", z -> z.swap(2, 2));
        refused(-1, "far", z -> z.swap(HIGH, LOW));
        refused(-3, "first's end is second's beginning", z -> z.swap(0, 1));
        refused(-3, "first's beginning is second's end", z -> z.swap(1, 0));
        refusedOn(() -> plain(4, 0, 1, 0, 2), -3, -3, "one beginning", z -> z.swap(0, 1));
        refusedOn(() -> plain(4, 0, 1, 2, 1), -3, -3, "one end", z -> z.swap(0, 1));
        refusedOn(() -> plain(4, 0, 1, 2, 3, 0, 3), -3, -3, "a to d is there", z -> z.swap(0, 2));
        refusedOn(() -> plain(4, 0, 1, 2, 3, 2, 1), -3, -3, "c to b is there", z -> z.swap(0, 2));
        refusedOn(() -> plain(4, 0, 1, 1, 0), -3, -3, "there and back", z -> z.swap(0, 1));
    }

    private static void mix() {
        begin(17, "mix");
        NetShapes x = net(4, 0, 1, 0, 5, 2, 3, 1, 6);
        // Draws by seed 1: 16838 and 38526, both even: one and the same link.
        due("one try", x.mix(1), 0);
        due("seed", x.seed(4), (int) 2524885223L);
        // Draws by seed 4: 1817 and 56934: links 1 and 0.
        due("one swap", x.mix(1), 1);
        due("0 to 3", x.linkOf(0, 3, 2), 5);
        due("2 to 1", x.linkOf(2, 1, 2), 6);
        due("2 to 1 is against", x.linkOf(2, 1, 1), 1);
        int seed = x.seed(0);
        x.seed(seed);
        due("none asked", x.mix(0), 0);
        due("and none drawn", x.seed(1), seed);
        NetShapes three = plain(6, 0, 1, 2, 3, 4, 5);
        three.seed(4);
        // Modulo 3 these draws are 2 and 0; with a sign the second would be below 0.
        due("of three links", three.mix(1), 1);
        due("0 to 5", three.linkOf(0, 5, 0), 1);
        due("2 to 3", three.linkOf(2, 3, 0), 1);
        due("4 to 1", three.linkOf(4, 1, 0), 1);
        NetShapes one = plain(3, 0, 1, 1, 2);
        due("most, of which none may be", one.mix(500), 0);
        due("refusals of swaps are not counted", one.status(13), 0);
        NetShapes many = net(16);
        for (int a = 0; a < 16; a++) {
            many.link(a, (a + 3) % 16, a & 1, a);
        }
        int done = many.mix(500);
        holds("1 to 500 swaps", done >= 1 && done <= 500);
        due("links stay", many.status(1), 16);
        due("kinds stay", many.status(2), 8);
        due("degrees stay", many.status(5), 1);
        due("degrees stay", many.status(6), 1);
        refused(-4, "below", y -> y.mix(-1));
        refused(-4, "far below", y -> y.mix(LOW));
        refused(-6, "above", y -> y.mix(501));
        refusedOn(() -> plain(4, 0, 1), -3, -3, "one link", y -> y.mix(1));
        refusedOn(() -> plain(4), -3, -3, "no link, none asked", y -> y.mix(0));
        refusedOn(() -> plain(4), -4, -4, "below ahead of too few", y -> y.mix(-1));
        refusedOn(() -> plain(4), -6, -6, "above ahead of too few", y -> y.mix(501));
    }

    private static void mean() {
        begin(18, "mean");
        NetShapes x = plain(3, 0, 1, 1, 2, 2, 0);
        // 3 of 6 places: 20 sets, 2 of them rings, 6 of shape 9.
        due("rings above", x.mean(11, 0), 1);
        due("rings below", x.mean(11, 1), 10);
        due("shape 9 above", x.mean(9, 0), 3);
        due("shape 9 below", x.mean(9, 1), 10);
        due("none above", x.mean(0, 0), 0);
        due("none below", x.mean(0, 1), 1);
        due("too many links below", x.mean(15, 1), 1);
        NetShapes four = plain(4, 0, 1);
        // One link upon 12 places: a three has it with chance 1 by 2; 4 threes.
        due("one link above", four.mean(1, 0), 2);
        due("one link below", four.mean(1, 1), 1);
        due("no link above", four.mean(0, 0), 2);
        NetShapes all = full(16);
        due("all above", all.mean(15, 0), 560);
        due("all below", all.mean(15, 1), 1);
        due("less than all", all.mean(14, 0), 0);
        due("empty", plain(16).mean(0, 0), 560);
        NetShapes half = downward(16, 0);
        // 560 times 6 times (120 119 118) squared by (240 239 238 237 236 235), without a common divisor.
        due("long one above", half.mean(9, 0), 47181120L);
        due("long one below", half.mean(9, 1), 887407L);
        refused(-1, "below", y -> y.mean(-1, 0));
        refused(-1, "above", y -> y.mean(16, 0));
        refused(-1, "shape ahead of part", y -> y.mean(16, 2));
        refused(-2, "part above", y -> y.mean(0, 2));
        refused(-2, "part below", y -> y.mean(0, -1));
    }

    private static void more() {
        begin(19, "more");
        NetShapes x = plain(3, 0, 1, 1, 2, 2, 0);
        due("above", x.more(11), 1);
        due("below", x.more(9), -1);
        due("at 0", x.more(0), 0);
        due("at all", full(16).more(15), 0);
        NetShapes four = plain(4, 0, 1);
        due("at 2", four.more(1), 0);
        due("at 2 of none", four.more(0), 0);
        refusedOn(NetTest::fixture, -1, 2000000001, "below", y -> y.more(-1));
        refusedOn(NetTest::fixture, -1, 2000000001, "above", y -> y.more(16));
        refusedOn(NetTest::fixture, -1, 2000000001, "far", y -> y.more(LOW));
    }

    private static void chains() {
        begin(20, "chains");
        NetShapes x = net(4, 0, 1, 0, 10, 1, 0, 0, 13, 1, 2, 1, 13, 2, 3, 0, 13, 3, 0, 0, 1000, 1, 3, 0, 9);
        due("back at 2", x.chains(2, 0), 0);
        due("back at 3", x.chains(3, 0), 1);
        due("back at all", x.chains(1000, 0), 1);
        due("on at 2", x.chains(2, 1), 0);
        due("on at 3", x.chains(3, 1), 1);
        due("not at one time", x.chains(0, 1), 0);
        due("on at 986", x.chains(986, 1), 1);
        due("on at 987", x.chains(987, 1), 2);
        due("on at 991", x.chains(991, 1), 3);
        due("on at all", x.chains(1000, 1), 3);
        due("from 0 to the greatest time", net(3, 0, 1, 0, 0, 1, 2, 0, 1000).chains(1000, 1), 1);
        due("by less", net(3, 0, 1, 0, 0, 1, 2, 0, 1000).chains(999, 1), 0);
        due("by one", net(3, 0, 1, 0, 4, 1, 2, 0, 5).chains(1, 1), 1);
        NetShapes great = new NetShapes();
        great.posts(16);
        for (int a = 0; a < 15; a++) {
            great.link(a, a + 1, 0, a);
            great.link(a + 1, a, 0, 1000 - a);
        }
        // Those that go up follow one another by one, and so do those that come down.
        due("sixteen, on", great.chains(1, 1), 28);
        due("sixteen, back", great.chains(1000, 0), 15);
        due("sixteen, back within 972", great.chains(972, 0), 1);
        due("earlier is no chain", net(3, 0, 1, 0, 5, 1, 2, 0, 4).chains(1000, 1), 0);
        refused(-2, "what above", y -> y.chains(0, 2));
        refused(-2, "what below", y -> y.chains(0, -1));
        refused(-2, "what ahead of below", y -> y.chains(-1, 2));
        refused(-2, "what ahead of above", y -> y.chains(1001, 2));
        refused(-4, "below", y -> y.chains(-1, 0));
        refused(-4, "far below", y -> y.chains(LOW, 1));
        refused(-6, "above", y -> y.chains(1001, 1));
    }

    private static void burst() {
        begin(21, "burst");
        NetShapes x = net(6, 0, 1, 0, 0, 0, 2, 1, 4, 0, 3, 0, 5, 0, 4, 0, 9, 0, 5, 0, 1000, 1, 0, 0, 4);
        due("at one time", x.burst(0, 0), 1);
        due("within 1", x.burst(0, 1), 2);
        due("within 4", x.burst(0, 4), 2);
        due("within 5, the later", x.burst(0, 5), 3);
        due("within 8", x.burst(0, 8), 3);
        due("within 9", x.burst(0, 9), 4);
        due("within 999", x.burst(0, 999), 4);
        due("within all", x.burst(0, 1000), 5);
        due("links from it only", x.burst(1, 1000), 1);
        due("none from it", x.burst(5, 1000), 0);
        NetShapes great = new NetShapes();
        great.posts(16);
        for (int b = 0; b < 15; b++) {
            great.link(15, b, 0, 100 - b);
        }
        due("sixteen", great.burst(15, 14), 15);
        due("sixteen, within 13", great.burst(15, 13), 14);
        due("alike", net(3, 0, 1, 0, 7, 0, 2, 0, 7).burst(0, 0), 2);
        refused(-1, "post below", y -> y.burst(-1, 0));
        refused(-1, "post above", y -> y.burst(5, 0));
        refused(-1, "post ahead of below", y -> y.burst(5, -1));
        refused(-1, "post ahead of above", y -> y.burst(5, 1001));
        refused(-4, "below", y -> y.burst(0, -1));
        refused(-6, "above", y -> y.burst(0, 1001));
        refused(-6, "far above", y -> y.burst(0, HIGH));
    }

    private static void signs() {
        begin(22, "signs");
        for (int against = 0; against < 8; against++) {
            NetShapes x = net(3, 0, 1, against & 1, 0, 2, 1, against >> 1 & 1, 0, 2, 0, against >> 2, 0);
            int quarrels = Integer.bitCount(against) % 2;
            due("quarrels with " + against, x.signs(1), quarrels);
            due("doesn't with " + against, x.signs(0), 1 - quarrels);
        }
        NetShapes open = net(3, 0, 1, 1, 0, 1, 2, 0, 0);
        due("open threes don't count", open.signs(1), 0);
        due("open threes don't count", open.signs(0), 0);
        NetShapes ways = net(3, 0, 1, 0, 0, 1, 0, 1, 0, 1, 2, 0, 0, 2, 0, 0, 0);
        due("one way is enough", ways.signs(1), 1);
        due("all", full(16).signs(0), 560);
        refused(-2, "above", y -> y.signs(2));
        refused(-2, "below", y -> y.signs(-1));
        refused(-2, "far", y -> y.signs(HIGH));
    }

    private static void sides() {
        begin(23, "sides");
        due("no links", plain(3).sides(0), 0);
        due("no links' sides", plain(3).sides(1), 0);
        NetShapes two = net(4, 0, 1, 1, 0, 1, 2, 0, 0);
        due("one against", two.sides(0), 0);
        due("with whom it is beside", two.sides(1), 6);
        NetShapes quarrel = net(3, 0, 1, 1, 0, 1, 2, 0, 0, 2, 0, 0, 0);
        due("a quarrel", quarrel.sides(0), 1);
        due("the least of several", quarrel.sides(1), 0);
        NetShapes first = net(3, 0, 1, 1, 0, 0, 2, 1, 0);
        due("the first is on the first side", first.sides(1), 6);
        NetShapes allAgainst = net(3, 0, 1, 1, 0, 1, 2, 1, 0, 2, 0, 1, 0);
        due("all against", allAgainst.sides(0), 1);
        due("the least of three", allAgainst.sides(1), 2);
        allAgainst.cut(1, 2);
        due("tried anew", allAgainst.sides(1), 6);
        allAgainst.posts(4);
        due("tried anew, none against", allAgainst.sides(1), 0);
        due("tried anew, none turned", allAgainst.sides(0), 0);
        NetShapes ways = net(3, 0, 1, 1, 0, 1, 0, 0, 0);
        due("both ways are one two", ways.sides(0), 0);
        due("against by one way", ways.sides(1), 2);
        NetShapes great = downward(16, 1);
        due("sixteen, all against", great.sides(0), 56);
        due("the first eight but one, and one", great.sides(1), 510);
        NetShapes last = net(16, 15, 0, 1, 0);
        due("the last one", last.sides(1), 32768);
        refused(-2, "above", y -> y.sides(2));
        refused(-2, "below", y -> y.sides(-1));
        refused(-2, "far", y -> y.sides(LOW));
    }

    private static void walks() {
        begin(24, "walks");
        NetShapes x = fixture();
        due("none long, to itself", x.walks(4, 4, 0, 0), 1);
        due("none long, to another", x.walks(4, 3, 0, 0), 0);
        due("one link", x.walks(0, 1, 1, 0), 1);
        due("not the other way", x.walks(1, 0, 1, 0), 0);
        due("round and round", x.walks(0, 0, 60, 0), 1);
        due("round and not quite", x.walks(0, 0, 59, 0), 0);
        due("to nowhere", x.walks(3, 4, 2, 0), 0);
        due("part 1 of 0", x.walks(3, 4, 2, 1), -9);
        due("part -1", x.walks(0, 1, 1, -1), -9);
        due("far part", x.walks(0, 1, 1, HIGH), -9);
        due("far part below", x.walks(0, 1, 1, LOW), -9);
        NetShapes all = full(16);
        due("two links, round", all.walks(2, 2, 2, 0), 15);
        due("two links", all.walks(2, 3, 2, 0), 14);
        // (15 to the power of 60, less 1) by 16.
        long[] parts = {177368164, 206461191, 6263966, 518670820, 475007040, 846256062, 294808313, 2298029};
        for (int part = 0; part < 8; part++) {
            due("part " + part, all.walks(0, 1, 60, part), parts[part]);
        }
        due("part 8", all.walks(0, 1, 60, 8), -9);
        due("a -9 is no refusal", all.status(11) + all.status(12) + all.status(14) + all.status(16), 0);
        NetShapes round = plain(11, 0, 1, 0, 2, 0, 3, 0, 4, 0, 5, 0, 6, 0, 7, 0, 8, 0, 9, 0, 10,
            1, 0, 2, 0, 3, 0, 4, 0, 5, 0, 6, 0, 7, 0, 8, 0, 9, 0, 10, 0);
        // There and back by one of ten: 10 to the power of half the length.
        due("least number of two parts, low", round.walks(0, 0, 18, 0), 0);
        due("least number of two parts, high", round.walks(0, 0, 18, 1), 1);
        due("least number of two parts, no third", round.walks(0, 0, 18, 2), -9);
        due("one part", round.walks(0, 0, 16, 0), 100000000);
        due("no second", round.walks(0, 0, 16, 1), -9);
        due("part 3 of 10 to 30", round.walks(0, 0, 60, 3), 1000);
        due("part 2 of 10 to 30", round.walks(0, 0, 60, 2), 0);
        refused(-1, "post below", y -> y.walks(-1, 0, 0, 0));
        refused(-1, "post above", y -> y.walks(0, 5, 0, 0));
        refused(-1, "post ahead of length", y -> y.walks(5, 0, -1, 0));
        refused(-1, "post ahead of length", y -> y.walks(0, 5, 61, -1));
        refused(-4, "length below", y -> y.walks(0, 0, -1, 0));
        refused(-4, "length ahead of part", y -> y.walks(0, 0, -1, -1));
        refused(-6, "length above", y -> y.walks(0, 0, 61, 0));
        refused(-6, "length ahead of part", y -> y.walks(0, 0, 61, -1));
    }

    private static void sample() {
        begin(25, "sample");
        NetShapes x = fixture();
        // Four of five posts have 4 of 10 threes: one ring, three with one link.
        due("rings above", x.sample(15, 11, 0), 5);
        due("rings below", x.sample(15, 11, 1), 2);
        due("one link above", x.sample(15, 1, 0), 15);
        due("one link below", x.sample(15, 1, 1), 2);
        due("none above", x.sample(15, 0, 0), 0);
        due("none below", x.sample(15, 0, 1), 1);
        due("three posts", x.sample(7, 11, 0), 10);
        due("three posts below", x.sample(7, 11, 1), 1);
        due("all posts", x.sample(31, 1, 0), 9);
        due("the last posts", x.sample(28, 1, 0), 10);
        due("with gaps between", x.sample(21, 1, 0), 10);
        due("with gaps between, no rings", x.sample(29, 11, 0), 0);
        due("greatest", full(16).sample(65535, 15, 0), 560);
        refused(-1, "shape below", y -> y.sample(7, -1, 0));
        refused(-1, "shape above", y -> y.sample(7, 16, 0));
        refused(-1, "other bits", y -> y.sample(32 + 7, 0, 0));
        refused(-1, "the sign", y -> y.sample(LOW + 7, 0, 0));
        refused(-1, "all bits", y -> y.sample(-1, 0, 0));
        refused(-1, "other bits ahead of too few", y -> y.sample(32, 0, 2));
        refused(-1, "shape ahead of too few", y -> y.sample(0, 16, 2));
        refused(-3, "two posts", y -> y.sample(3, 0, 0));
        refused(-3, "no posts", y -> y.sample(0, 0, 0));
        refused(-3, "too few ahead of part", y -> y.sample(3, 0, 2));
        refused(-2, "part above", y -> y.sample(7, 0, 2));
        refused(-2, "part below", y -> y.sample(7, 0, -1));
    }

    private static void keep() {
        begin(26, "keep");
        NetShapes x = fixture();
        due("keep(3)", x.keep(3), 4);
        due("sheets", x.status(4), 2);
        x.cut(0, 1);
        due("again", x.keep(3), 3);
        due("sheets", x.status(4), 2);
        x.link(1, 0, 0, 0);
        x.link(1, 2, 0, 77);
        due("what is kept stays", x.take(3), 3);
        due("no link", x.linkOf(1, 0, 0), 0);
        due("kind", x.linkOf(1, 2, 1), 1);
        due("time", x.linkOf(1, 2, 2), 8);
        due("no links", new NetShapes().keep(0), 0);
        refused(-1, "below", y -> y.keep(-1));
        refused(-1, "above", y -> y.keep(4));
        refused(-1, "far", y -> y.keep(HIGH));
    }

    private static void take() {
        begin(27, "take");
        NetShapes x = fixture();
        x.posts(16);
        x.link(0, 1, 1, 1);
        x.link(15, 14, 1, 1);
        due("take(0)", x.take(0), 4);
        due("n", x.status(0), 5);
        due("kind", x.linkOf(0, 1, 1), 0);
        due("time", x.linkOf(0, 1, 2), 7);
        due("the last one's kind", x.linkOf(3, 4, 1), 1);
        due("the last one's time", x.linkOf(3, 4, 2), 1000);
        due("links", x.status(1), 4);
        due("kind 1", x.status(2), 2);
        x.cut(0, 1);
        due("the sheet stays", x.take(0), 4);
        due("still", x.status(4), 1);
        due("the seed stays", x.seed(1), 77);
        refused(-1, "below", y -> y.take(-1));
        refused(-1, "above", y -> y.take(4));
        refused(-5, "missing", y -> y.take(1));
        refused(-5, "missing, the last", y -> y.take(3));
    }

    private static void lose() {
        begin(28, "lose");
        NetShapes x = fixture();
        due("lose(0)", x.lose(0), 1);
        due("sheets", x.status(4), 0);
        due("the net stays", x.status(1), 4);
        due("no take", x.take(0), -5);
        due("no far", x.far(0), -5);
        due("again", x.lose(0), -5);
        due("kept again", x.keep(0), 4);
        due("lost again", x.lose(0), 1);
        refused(-1, "below", y -> y.lose(-1));
        refused(-1, "above", y -> y.lose(4));
        refused(-1, "far", y -> y.lose(LOW));
        refused(-5, "missing", y -> y.lose(2));
    }

    private static void far() {
        begin(29, "far");
        NetShapes x = fixture();
        due("itself", x.far(0), 0);
        x.cut(0, 1);
        // The ring becomes a row of two, and two threes with one link become empty.
        due("less one link", x.far(0), 6);
        x.link(1, 0, 1, 5);
        due("turned, one ring is another shape", x.far(0), 2);
        x.posts(16);
        // 560 empty threes against nine with one link and one ring.
        due("of other sizes", x.far(0), 570);
        due("far changes nothing", x.status(0), 16);
        due("nor the sheet", x.take(0), 4);
        refused(-1, "below", y -> y.far(-1));
        refused(-1, "above", y -> y.far(4));
        refused(-5, "missing", y -> y.far(1));
    }

    private static void status() {
        begin(30, "status");
        NetShapes x = net(5, 0, 1, 1, 7, 1, 0, 0, 8, 2, 0, 1, 9, 3, 4, 1, 1000, 0, 3, 0, 0, 4, 0, 0, 1);
        x.keep(1);
        x.keep(3);
        int[] want = {5, 6, 3, 5, 2, 2, 3};
        for (int what = 0; what < want.length; what++) {
            due("status(" + what + ")", x.status(what), want[what]);
        }
        NetShapes great = full(16);
        int[] greatest = {16, 240, 0, 120, 0, 15, 15};
        for (int what = 0; what < greatest.length; what++) {
            due("status(" + what + ") of the greatest net", great.status(what), greatest[what]);
        }
        x.role(5);
        x.count(16);
        x.more(16);
        x.fours(6);
        x.cut(0, 2);
        x.cut(0, 2);
        x.posts(2);
        x.lose(0);
        x.lose(0);
        x.lose(0);
        x.posts(17);
        int[] refused = {3, 1, 2, 1, 3, 1};
        for (int i = 0; i < 6; i++) {
            due("status(" + (11 + i) + ")", x.status(11 + i), refused[i]);
        }
        for (int what : new int[] {-1, 7, 8, 9, 10, 17, 18, LOW, HIGH}) {
            due("status(" + what + ")", x.status(what), -9);
        }
        for (int i = 0; i < 6; i++) {
            due("-9 is not counted: status(" + (11 + i) + ")", x.status(11 + i), refused[i]);
        }
    }
}
