/** Days as they go: Terms II, III and promises 6 to 20 and 24 to 31. */
final class EdgeDays {
    /** WIDTHS 7, 5, 3; CARTS 0, 1, 2 pass on DAYS 0, 1, 2, CART 3 never comes. */
    static final String PLAIN = Edges.bridge(3, 10, 7, 2, 3) + Edges.deed(0, 4, 3, 5) + Edges.deed(1, 1, -20, 2)
            + Edges.cart(0, 4, 0, 0, 10) + Edges.cart(1, 5, 0, 0, 7) + Edges.cart(0, 3, 2, 2, 5) + Edges.cart(1, 1, 3, 9, 100);
    /** The most of all: six CARTS of 999 that pass at once on DAY 0, DEEDS of 99. */
    static final String MOST = Edges.bridge(6, 60, 60, 0, 0) + Edges.deed(0, 99, 0, 0) + Edges.deed(1, 99, 0, 0)
            + Edges.deed(0, 99, 0, 0) + Edges.deed(1, 99, 0, 0) + Edges.cart(0, 10, 0, 0, 999).repeat(6);
    /** One DAY, no DEED, no CART. */
    static final String BARE = Edges.bridge(1, 5, 7, 1, 3);

    private EdgeDays() { }

    static void run() {
        feelings();
        carts();
        told();
        feels();
        widths();
        shut();
        passes();
        waits();
        rooms();
        stuck();
        lostAndKept();
        accounts();
        peaks();
        lacks();
        crowds();
        lateOnes();
        tolls();
        gaps();
        kinds();
    }

    private static void feelings() {
        Edges.of(Edges.TERMS, "On a DAY first its DEED is done, if one is: each feeling has what it gives more (0 at least, 60 at most).");
        QuarrelBridge x = Edges.on(Edges.bridge(2, 30, 30, 0, 0), Edges.deed(0, 0, 30, -30), Edges.deed(0, 0, -30, 30),
                Edges.deed(0, 0, 29, -29), Edges.deed(0, 0, 0, 0));
        both(x, "none", 0, 30, 30);
        x.does(0, 0);
        both(x, "to 60 and 0", 0, 60, 0);
        x.does(1, 0);
        both(x, "not beyond", 1, 60, 0);
        x.does(1, 1);
        both(x, "and back from there", 1, 30, 30);
        x.does(0, 2);
        both(x, "short of them", 0, 59, 1);
        x.does(1, 0);
        both(x, "by one too many", 1, 60, 0);
        x.does(1, 3);
        both(x, "nothing more", 1, 59, 1);
        Edges.of(Edges.TERMS, "WIDTH of the DAY: the lesser feeling.");
        Edges.is("of SIDE 1", x.width(0), 1);
        x.does(0, 1);
        Edges.is("of SIDE 0", x.width(0), 0);
        x.does(0, -1);
        Edges.is("of both", x.width(0), 30);
        Edges.of(Edges.TERMS, "At its end each feeling is cools less (0 at least).");
        QuarrelBridge y = Edges.on(Edges.bridge(3, 9, 10, 9, 0), Edges.deed(0, 0, 0, 8));
        both(y, "DAY 1", 1, 0, 1);
        both(y, "DAY 2", 2, 0, 0);
        y.does(2, 0);
        both(y, "from 0, not below", 2, 0, 8);
        y.does(0, 0);
        both(y, "behind its DEED", 1, 0, 9);
        QuarrelBridge z = Edges.on(Edges.bridge(6, 60, 1, 0, 0));
        both(z, "by 0", 5, 60, 1);
        Edges.of(Edges.TERMS, "On DAY 0 feelings begin as told.");
        QuarrelBridge w = Edges.on(Edges.bridge(1, 0, 60, 9, 10));
        both(w, "DAY 0", 0, 0, 60);
        QuarrelBridge v = Edges.on(Edges.bridge(1, 60, 0, 9, 10));
        both(v, "DAY 0", 0, 60, 0);
    }

    private static void both(QuarrelBridge x, String when, int day, int one, int other) {
        Edges.is(when + ", SIDE 0", x.feels(0, day), one);
        Edges.is(when + ", SIDE 1", x.feels(1, day), other);
    }

    private static void carts() {
        Edges.of(Edges.TERMS, "A CART comes on its from (beyond the last DAY: never).");
        QuarrelBridge x = Edges.on(Edges.bridge(2, 9, 9, 0, 0), Edges.cart(0, 1, 0, 9, 1), Edges.cart(0, 1, 1, 9, 1),
                Edges.cart(0, 1, 2, 9, 1), Edges.cart(0, 1, 9, 9, 1));
        Edges.row("passes", x::passes, 0, 1, -1, -1);
        Edges.row("over", x::over, 1, 2);
        Edges.row("they do not wait", x::waits, 0, 0);
        Edges.of(Edges.TERMS, "On a DAY all that came and did not pass yet pass by numbers, each if it is no wider than what is left of WIDTH.");
        QuarrelBridge y = Edges.on(Edges.bridge(3, 9, 20, 0, 0), Edges.cart(0, 10, 0, 9, 1), Edges.cart(0, 5, 0, 9, 1),
                Edges.cart(0, 5, 0, 9, 1), Edges.cart(0, 4, 0, 9, 1), Edges.cart(0, 9, 1, 9, 1));
        // 9 wide: 10 never, 5, not 5, 4 just so; then 5, not 9; then 9 just so.
        Edges.row("passes", y::passes, -1, 0, 1, 0, 2);
        Edges.row("room", y::room, 0, 4, 0);
        QuarrelBridge z = Edges.on(Edges.bridge(2, 0, 9, 0, 0), Edges.cart(0, 1, 0, 9, 1));
        Edges.row("nothing in WIDTH 0", z::over, 0, 0);
    }

    private static void told() {
        QuarrelBridge x = Edges.on(PLAIN);
        Edges.of(6, "Of a DEED, what 0: SIDE, 1: costs, 2: what it gives the feeling of SIDE 0, 3: of SIDE 1 (below 0: takes).");
        Edges.row("deed 0", what -> x.deed(0, what), 0, 4, 3, 5);
        Edges.row("deed 1", what -> x.deed(1, what), 1, 1, -20, 2);
        Edges.of(6, "-1,000: there are none such.");
        Edges.none("deed of DEED", deed -> x.deed(deed, 0), -1000, 2);
        Edges.none("deed of what", what -> x.deed(1, what), -1000, 4);
        Edges.is("neither", x.deed(2, 4), -1000);
        Edges.all("without DEEDS, a BRIDGE", -1000, Edges.on(BARE).deed(0, 0), new QuarrelBridge().deed(0, 0),
                new QuarrelBridge().deed(-1, -1));
        Edges.of(7, "Of a CART, what 0: SIDE, 1: wide, 2: from, 3: due, 4: pays.");
        Edges.row("cart 0", what -> x.cart(0, what), 0, 4, 0, 0, 10);
        Edges.row("cart 3", what -> x.cart(3, what), 1, 1, 3, 9, 100);
        Edges.of(7, "-2: there are none such.");
        Edges.none("cart of CART", cart -> x.cart(cart, 0), -2, 4);
        Edges.none("cart of what", what -> x.cart(3, what), -2, 5);
        Edges.is("neither", x.cart(4, 5), -2);
        Edges.all("without CARTS, a BRIDGE", -2, Edges.on(BARE).cart(0, 0), new QuarrelBridge().cart(0, 0));
    }

    private static void feels() {
        QuarrelBridge x = Edges.on(PLAIN);
        Edges.of(8, "The feeling of a SIDE on a DAY (II), deeds done as now.");
        Edges.row("of SIDE 0", day -> x.feels(0, day), 10, 8, 6);
        Edges.row("of SIDE 1", day -> x.feels(1, day), 7, 5, 3);
        Edges.of(8, "-1,000: there are none such.");
        Edges.none("feels of SIDE", side -> x.feels(side, 0), -1000, 2);
        Edges.none("feels on DAY", day -> x.feels(1, day), -1000, 3);
        Edges.is("neither", x.feels(2, 3), -1000);
        Edges.all("without a BRIDGE", -1000, new QuarrelBridge().feels(0, 0), new QuarrelBridge().feels(1, -1));
        x.does(2, 0);
        Edges.of(8, "deeds done as now");
        Edges.row("of SIDE 0", day -> x.feels(0, day), 10, 8, 9);
        x.undo();
        Edges.row("of SIDE 0, taken back", day -> x.feels(0, day), 10, 8, 6);
    }

    private static void widths() {
        QuarrelBridge x = Edges.on(PLAIN);
        QuarrelBridge no = new QuarrelBridge();
        Edges.of(9, "WIDTH on a DAY.");
        Edges.row("width", x::width, 7, 5, 3);
        Edges.of(9, "-2: there is none such.");
        Edges.none("width", x::width, -2, 3);
        Edges.none("width of none", no::width, -2, 0);
        Edges.of(10, "The DAY on which it is least, the first of several.");
        Edges.is("the last", x.narrow(), 2);
        Edges.is("all alike", Edges.on(Edges.bridge(6, 9, 9, 0, 0)).narrow(), 0);
        Edges.is("of one", Edges.on(BARE).narrow(), 0);
        QuarrelBridge y = Edges.on(Edges.bridge(6, 9, 9, 3, 0), Edges.deed(0, 0, 30, 30));
        Edges.is("0 from DAY 3 on", y.narrow(), 3);
        Edges.is("DAY 1", Edges.on(Edges.bridge(2, 9, 9, 1, 0)).narrow(), 1);
        y.does(3, 0);
        Edges.is("3 on DAY 2", y.narrow(), 2);
        Edges.of(10, "-2: there is no BRIDGE.");
        Edges.is("narrow", no.narrow(), -2);
    }

    private static void shut() {
        QuarrelBridge x = Edges.on(Edges.bridge(6, 2, 60, 1, 0), Edges.deed(0, 0, 1, -30));
        Edges.of(11, "DAYS on which nothing could pass (WIDTH 0), as bits.");
        Edges.is("from DAY 2 on", x.shut(), 60);
        x.does(2, 0);
        Edges.is("WIDTH 1 is not", x.shut(), 56);
        x.does(0, 0);
        // 30 29 0 0 0 0 of SIDE 1
        Edges.is("by the other SIDE", x.shut(), 60);
        Edges.is("all", Edges.on(Edges.bridge(6, 0, 60, 0, 0)).shut(), 63);
        Edges.is("none", Edges.on(Edges.bridge(6, 1, 1, 0, 0)).shut(), 0);
        Edges.of(11, "-2 likewise.");
        Edges.is("shut", new QuarrelBridge().shut(), -2);
    }

    private static void passes() {
        QuarrelBridge x = Edges.on(PLAIN);
        QuarrelBridge no = new QuarrelBridge();
        Edges.of(12, "The DAY on which a CART passes (III).");
        Edges.row("passes", x::passes, 0, 1, 2);
        Edges.of(12, "NONE: on none");
        Edges.is("never comes", x.passes(3), -1);
        QuarrelBridge y = Edges.on(Edges.bridge(6, 39, 40, 0, 0), Edges.cart(0, 40, 0, 9, 1), Edges.cart(0, 39, 5, 0, 1));
        Edges.is("too wide", y.passes(0), -1);
        Edges.is("on the last DAY", y.passes(1), 5);
        Edges.of(12, "-2: there is none such.");
        Edges.none("passes", x::passes, -2, 4);
        Edges.all("without CARTS, a BRIDGE", -2, Edges.on(BARE).passes(0), no.passes(0), no.passes(-1));
        Edges.of(13, "CARTS that pass on a DAY, as bits.");
        Edges.row("over", x::over, 1, 2, 4);
        Edges.row("all at once, once", Edges.on(MOST)::over, 63, 0, 0, 0, 0, 0);
        Edges.row("without any", Edges.on(BARE)::over, 0);
        Edges.of(13, "-2: there is none such.");
        Edges.none("over", x::over, -2, 3);
        Edges.none("over of none", no::over, -2, 0);
    }

    private static void waits() {
        QuarrelBridge x = Edges.on(PLAIN);
        Edges.of(14, "CARTS that wait at the end of a DAY (came, did not pass), as bits.");
        Edges.row("waits", x::waits, 2, 0, 0);
        QuarrelBridge y = Edges.on(Edges.bridge(3, 0, 0, 0, 0), Edges.cart(0, 1, 0, 9, 1), Edges.cart(0, 1, 1, 0, 1),
                Edges.cart(0, 1, 2, 9, 1), Edges.cart(0, 1, 3, 9, 1), Edges.cart(0, 1, 0, 0, 1), Edges.cart(0, 1, 0, 0, 1));
        Edges.row("as they come", y::waits, 49, 51, 55);
        Edges.row("none", Edges.on(MOST)::waits, 0, 0, 0, 0, 0, 0);
        Edges.of(14, "-2 likewise.");
        Edges.none("waits", x::waits, -2, 3);
        Edges.none("waits of none", new QuarrelBridge()::waits, -2, 0);
    }

    private static void rooms() {
        QuarrelBridge x = Edges.on(PLAIN);
        Edges.of(15, "WIDTH that is left on a DAY, when all have passed that do.");
        Edges.row("room", x::room, 3, 0, 0);
        Edges.row("all and none", Edges.on(MOST)::room, 0, 60, 60, 60, 60, 60);
        Edges.row("without CARTS", Edges.on(BARE)::room, 5);
        Edges.row("of WIDTH 0", Edges.on(Edges.bridge(1, 0, 60, 0, 0), Edges.cart(0, 1, 0, 0, 1))::room, 0);
        Edges.of(15, "-2 likewise.");
        Edges.none("room", x::room, -2, 3);
        Edges.none("room of none", new QuarrelBridge()::room, -2, 0);
    }

    private static void stuck() {
        Edges.of(16, "The first CART that does not pass on the DAY on which it comes (by DAYS, on one DAY by numbers).");
        QuarrelBridge x = Edges.on(Edges.bridge(3, 5, 5, 0, 0), Edges.cart(0, 6, 2, 9, 1), Edges.cart(0, 3, 1, 9, 1),
                Edges.cart(0, 3, 1, 9, 1), Edges.cart(0, 6, 1, 9, 1));
        Edges.is("by DAYS, then numbers", x.stuck(), 2);
        Edges.is("passes later", x.passes(2), 2);
        QuarrelBridge y = Edges.on(Edges.bridge(1, 5, 5, 0, 0), Edges.cart(0, 6, 0, 0, 1), Edges.cart(0, 6, 0, 0, 1));
        Edges.is("number 0", y.stuck(), 0);
        QuarrelBridge z = Edges.on(Edges.bridge(6, 5, 5, 0, 0), Edges.cart(0, 5, 5, 0, 1), Edges.cart(0, 1, 5, 0, 1));
        Edges.is("on the last DAY", z.stuck(), 1);
        Edges.of(16, "NONE: all do");
        Edges.is("six at once", Edges.on(MOST).stuck(), -1);
        Edges.is("without CARTS", Edges.on(BARE).stuck(), -1);
        QuarrelBridge w = Edges.on(Edges.bridge(2, 0, 0, 0, 0), Edges.cart(0, 1, 2, 9, 1), Edges.cart(0, 1, 9, 9, 1));
        Edges.is("those that never come have no such DAY", w.stuck(), -1);
        Edges.of(16, "-2: there is no BRIDGE.");
        Edges.is("stuck", new QuarrelBridge().stuck(), -2);
    }

    private static void lostAndKept() {
        QuarrelBridge no = new QuarrelBridge();
        QuarrelBridge x = Edges.on(Edges.bridge(3, 5, 5, 0, 0), Edges.cart(0, 5, 0, 0, 1), Edges.cart(0, 5, 0, 1, 2),
                Edges.cart(0, 5, 0, 1, 4), Edges.cart(0, 5, 2, 9, 8), Edges.cart(0, 1, 3, 9, 16), Edges.cart(0, 6, 0, 9, 32));
        Edges.of(17, "CARTS that pass on no DAY, as bits.");
        Edges.is("some", x.lost(), 56);
        Edges.is("none", Edges.on(MOST).lost(), 0);
        Edges.is("all", Edges.on(Edges.bridge(6, 0, 0, 0, 0), Edges.cart(0, 1, 0, 9, 1).repeat(6)).lost(), 63);
        Edges.is("without CARTS", Edges.on(BARE).lost(), 0);
        Edges.of(17, "-2 likewise.");
        Edges.is("lost", no.lost(), -2);
        Edges.of(18, "CARTS that pass no later than due, as bits.");
        Edges.is("on its due, not behind it", x.kept(), 3);
        Edges.is("all", Edges.on(MOST).kept(), 63);
        Edges.is("due ahead of from", Edges.on(Edges.bridge(2, 5, 5, 0, 0), Edges.cart(0, 1, 1, 0, 1)).kept(), 0);
        Edges.is("due beyond the last DAY", Edges.on(Edges.bridge(1, 5, 5, 0, 0), Edges.cart(0, 1, 0, 9, 1)).kept(), 1);
        Edges.is("without CARTS", Edges.on(BARE).kept(), 0);
        Edges.of(18, "-2 likewise.");
        Edges.is("kept", no.kept(), -2);
        Edges.of(27, "CARTS that pass later than due, as bits.");
        Edges.is("late", x.late(), 4);
        Edges.is("due ahead of from", Edges.on(Edges.bridge(2, 5, 5, 0, 0), Edges.cart(0, 1, 1, 0, 1)).late(), 1);
        Edges.is("none", Edges.on(MOST).late(), 0);
        Edges.is("those that pass on no DAY are not", Edges.on(Edges.bridge(6, 0, 0, 0, 0), Edges.cart(0, 1, 0, 0, 1)).late(), 0);
        Edges.of(27, "-2: there is no BRIDGE.");
        Edges.is("late", no.late(), -2);
    }

    private static void accounts() {
        QuarrelBridge no = new QuarrelBridge();
        QuarrelBridge x = Edges.on(MOST);
        Edges.of(19, "What they pay together.");
        Edges.is("most", x.pays(), 5994);
        Edges.is("without CARTS", Edges.on(BARE).pays(), 0);
        Edges.is("late ones aside", Edges.on(Edges.bridge(3, 5, 5, 0, 0), Edges.cart(0, 5, 1, 1, 3), Edges.cart(0, 5, 1, 0, 9),
                Edges.cart(0, 5, 0, 0, 4)).pays(), 7);
        Edges.of(19, "-2 likewise.");
        Edges.is("pays", no.pays(), -2);
        Edges.of(20, "What deeds done cost together.");
        Edges.is("none", x.costs(), 0);
        for (int day = 0; day < 6; day++) x.does(day, day % 4);
        Edges.is("most", x.costs(), 594);
        x.does(0, 1);
        Edges.is("in place of another", x.costs(), 594);
        x.does(5, -1);
        Edges.is("one less", x.costs(), 495);
        Edges.of(20, "-2 likewise.");
        Edges.is("costs", no.costs(), -2);
    }

    private static void peaks() {
        Edges.of(24, "The DAY on which WIDTH is greatest, the first of several.");
        Edges.is("all alike", Edges.on(Edges.bridge(6, 9, 9, 0, 0)).peak(), 0);
        Edges.is("of one", Edges.on(BARE).peak(), 0);
        QuarrelBridge x = Edges.on(Edges.bridge(6, 9, 9, 3, 0), Edges.deed(0, 0, 3, 3), Edges.deed(0, 0, 30, 30));
        Edges.is("the first", x.peak(), 0);
        x.does(1, 0);
        Edges.is("as great again", x.peak(), 0);
        x.does(5, 1);
        Edges.is("the last", x.peak(), 5);
        QuarrelBridge y = Edges.on(Edges.bridge(3, 9, 9, 0, 0), Edges.deed(0, 0, 1, 1));
        y.does(1, 0);
        Edges.is("DAY 1", y.peak(), 1);
        Edges.of(24, "-2: there is no BRIDGE.");
        Edges.is("peak", new QuarrelBridge().peak(), -2);
    }

    private static void lacks() {
        // WIDTHS 20, 15, 10, 5.
        QuarrelBridge x = Edges.on(Edges.bridge(4, 20, 60, 5, 0), Edges.cart(0, 16, 1, 2, 1), Edges.cart(0, 15, 1, 1, 1),
                Edges.cart(0, 14, 1, 9, 1), Edges.cart(0, 7, 2, 1, 1), Edges.cart(0, 40, 4, 9, 1), Edges.cart(0, 30, 2, 3, 1));
        Edges.of(25, "By how much the greatest WIDTH of DAYS from which a CART comes to its due (0, if there are none)"
                + " is less than it is wide (0: not less).");
        Edges.row("lacks", x::lacks, 1, 0, 0, 7, 40, 20);
        Edges.row("of six DAYS, due beyond the last", Edges.on(Edges.bridge(6, 20, 20, 1, 0), Edges.cart(0, 16, 5, 9, 1))::lacks, 1);
        QuarrelBridge y = Edges.on(Edges.bridge(2, 5, 5, 5, 0), Edges.deed(0, 0, 30, 30), Edges.cart(0, 9, 0, 0, 1),
                Edges.cart(0, 9, 0, 1, 1));
        y.does(1, 0);
        Edges.row("a DAY behind due is none of these", y::lacks, 4, 0);
        Edges.of(25, "-2: there is none such.");
        Edges.none("lacks", x::lacks, -2, 6);
        Edges.none("lacks without CARTS", Edges.on(BARE)::lacks, -2, 0);
        Edges.none("lacks of none", new QuarrelBridge()::lacks, -2, 0);
    }

    private static void crowds() {
        Edges.of(26, "The DAY on which most CARTS pass, the first of several, if any do.");
        QuarrelBridge x = Edges.on(Edges.bridge(6, 5, 5, 0, 0), Edges.cart(0, 5, 0, 9, 1), Edges.cart(0, 2, 2, 9, 1),
                Edges.cart(0, 2, 2, 9, 1), Edges.cart(0, 2, 5, 9, 1), Edges.cart(0, 2, 5, 9, 1));
        Edges.is("two and two", x.crowd(), 2);
        Edges.is("one of one", Edges.on(Edges.bridge(6, 5, 5, 0, 0), Edges.cart(0, 5, 5, 0, 1)).crowd(), 5);
        Edges.is("DAY 0", Edges.on(MOST).crowd(), 0);
        Edges.of(26, "NONE: none");
        Edges.is("too wide", Edges.on(Edges.bridge(6, 5, 5, 0, 0), Edges.cart(0, 6, 0, 9, 1)).crowd(), -1);
        Edges.is("without CARTS", Edges.on(BARE).crowd(), -1);
        Edges.of(26, "-2: there is no BRIDGE.");
        Edges.is("crowd", new QuarrelBridge().crowd(), -2);
    }

    private static void lateOnes() {
        Edges.of(28, "How many DAYS those that pass wait, from which they come, together.");
        // 5 wide: CART 0 at once, the others on DAYS 1 to 5.
        QuarrelBridge x = Edges.on(Edges.bridge(6, 5, 5, 0, 0), Edges.cart(0, 5, 0, 9, 1).repeat(6));
        Edges.is("0 to 5", x.delay(), 15);
        QuarrelBridge y = Edges.on(Edges.bridge(6, 5, 5, 0, 0), Edges.cart(0, 6, 0, 9, 1), Edges.cart(0, 5, 3, 0, 1),
                Edges.cart(0, 5, 3, 0, 1), Edges.cart(0, 1, 6, 9, 1));
        Edges.is("of those that pass, from when they come", y.delay(), 1);
        QuarrelBridge z = Edges.on(Edges.bridge(6, 0, 5, 0, 0), Edges.deed(0, 0, 5, 0), Edges.cart(0, 5, 0, 9, 1));
        z.does(5, 0);
        Edges.is("CART 0 waits for five", z.delay(), 5);
        Edges.is("none", Edges.on(MOST).delay(), 0);
        Edges.is("without CARTS", Edges.on(BARE).delay(), 0);
        Edges.of(28, "-2 likewise.");
        Edges.is("delay", new QuarrelBridge().delay(), -2);
    }

    private static void tolls() {
        Edges.of(29, "What those pay that pass on a DAY (late ones, too).");
        QuarrelBridge x = Edges.on(Edges.bridge(3, 5, 5, 0, 0), Edges.cart(0, 5, 1, 0, 3), Edges.cart(0, 5, 1, 2, 9),
                Edges.cart(0, 6, 0, 9, 90));
        Edges.row("toll", x::toll, 0, 3, 9);
        Edges.row("most", Edges.on(MOST)::toll, 5994, 0, 0, 0, 0, 0);
        Edges.row("without CARTS", Edges.on(BARE)::toll, 0);
        Edges.of(29, "-2: there is none such.");
        Edges.none("toll", x::toll, -2, 3);
        Edges.none("toll of none", new QuarrelBridge()::toll, -2, 0);
    }

    private static void gaps() {
        Edges.of(30, "By how much both feelings are unlike on a DAY.");
        QuarrelBridge x = Edges.on(Edges.bridge(3, 60, 0, 9, 0), Edges.deed(0, 0, -30, 30));
        Edges.row("60 and 0, then 0 stays", x::gap, 60, 51, 42);
        x.does(1, 0); // 21 30, 12 21
        Edges.row("the other way", x::gap, 60, 9, 9);
        Edges.row("alike", Edges.on(Edges.bridge(2, 7, 7, 1, 0))::gap, 0, 0);
        Edges.row("0 and 60", Edges.on(Edges.bridge(1, 0, 60, 1, 0))::gap, 60);
        Edges.of(30, "-2 likewise.");
        Edges.none("gap", x::gap, -2, 3);
        Edges.none("gap of none", new QuarrelBridge()::gap, -2, 0);
    }

    private static void kinds() {
        Edges.of(31, "The DEED by which, done on a DAY in place of what is done, WIDTH of that DAY is greatest,"
                + " if greater than now, the first of several.");
        QuarrelBridge x = Edges.on(Edges.bridge(2, 50, 50, 9, 0), Edges.deed(0, 0, 9, 9), Edges.deed(0, 0, 10, 10),
                Edges.deed(1, 0, 30, 30), Edges.deed(1, 0, -30, -30));
        Edges.row("60 at most: the first of two", x::kind, 1, 2);
        Edges.is("number 0", Edges.on(EdgeDays.BARE, Edges.deed(0, 0, 1, 0)).kind(0), 0);
        x.does(0, 0);
        Edges.is("one more by another", x.kind(0), 1);
        x.does(0, 3);
        Edges.is("in place of a bad one", x.kind(0), 1);
        // 20, then 11.
        Edges.is("behind it", x.kind(1), 2);
        Edges.of(31, "NONE: none");
        x.does(0, 1);
        Edges.is("as great as now", x.kind(0), -1);
        x.does(0, 2);
        Edges.is("as great by another", x.kind(0), -1);
        Edges.is("without DEEDS", Edges.on(BARE).kind(0), -1);
        Edges.is("none is better", Edges.on(BARE, Edges.deed(0, 0, -1, 0), Edges.deed(0, 0, 0, 9)).kind(0), -1);
        QuarrelBridge y = Edges.on(BARE, Edges.deed(0, 0, -1, 0));
        y.does(0, 0);
        Edges.is("to do nothing is no DEED", y.kind(0), -1);
        Edges.of(31, "-2 likewise.");
        Edges.none("kind", x::kind, -2, 2);
        Edges.none("kind of none", new QuarrelBridge()::kind, -2, 0);
    }
}
