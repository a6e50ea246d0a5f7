/** Plans and orders: Terms IV and promises 21 to 23 and 32 to 47. */
final class EdgePlans {
    /** Four DEEDS for nothing that do nothing, on six DAYS: 15,625 PLANS, all alike. */
    private static final String ALIKE = Edges.bridge(6, 9, 9, 0, 0) + Edges.deed(0, 0, 0, 0).repeat(4);
    /** One DAY, 5 wide; DEED 0 makes it 6 for 7; a CART 6 wide pays 7. */
    private static final String EVEN = Edges.bridge(1, 5, 5, 0, 0) + Edges.deed(0, 7, 1, 1) + Edges.cart(0, 6, 0, 0, 7);
    /** One DAY, 5 wide; DEED 0 makes it 10 for 2; CARTS 5 and 5 wide pay 9 and 4. */
    private static final String TWO = Edges.bridge(1, 5, 5, 0, 0) + Edges.deed(0, 2, 5, 5)
            + Edges.cart(0, 5, 0, 0, 9) + Edges.cart(1, 5, 0, 0, 4);

    private EdgePlans() { }

    static void run() {
        plans();
        best();
        firstPlan();
        ways();
        alone();
        value();
        sets();
        often();
        cheap();
        cheaply();
        soonest();
        hold();
        widest();
        most();
        abreast();
        loads();
        queue();
        queues();
        line();
    }

    private static void plans() {
        Edges.of(Edges.TERMS, "PLAN: a row, DAY by DAY a DEED or none (acts aside; a DEED as often as one wants).");
        // 5 six times are the 30 that the CART needs, on the last DAY.
        QuarrelBridge x = Edges.on(Edges.bridge(6, 0, 0, 0, 0), Edges.deed(0, 1, 5, 5), Edges.deed(1, 50, -30, -30),
                Edges.cart(0, 30, 0, 5, 100));
        Edges.is("as often as one wants", x.best(), 94);
        Edges.row("plan", x::plan, 0, 0, 0, 0, 0, 0);
        Edges.is("just this one", x.ways(), 1);
        for (int day = 0; day < 6; day++) x.does(day, 1);
        Edges.is("acts aside", x.best(), 94);
        Edges.row("plan, acts aside", x::plan, 0, 0, 0, 0, 0, 0);
        Edges.is("costs, acts as done", x.costs(), 300);
        Edges.is("WIDTH, acts aside", x.most(5), 30);
        Edges.is("CHEAP, acts aside", x.cheap(1), 6);
        Edges.is("HOLD, acts aside", x.hold(0), 0);
        QuarrelBridge z = Edges.on(Edges.bridge(2, 4, 4, 0, 0), Edges.deed(0, 1, 5, 5), Edges.deed(1, 50, -30, -30), Edges.cart(0, 9, 0, 1, 100));
        for (int day = 0; day < 2; day++) z.does(day, 1);
        Edges.is("acts first, and aside", z.best(), 99);
        Edges.is("ways, acts aside", z.ways(), 2);
        Edges.row("plan, acts aside", z::plan, -1, 0);
        Edges.is("often, acts aside", z.often(0), 4);
        Edges.row("hold, acts aside", z::hold, 0, 0, 0, 0, 0, 1);
        QuarrelBridge y = Edges.on(EdgeDays.BARE);
        Edges.is("without DEEDS", y.ways(), 1);
        Edges.is("none", y.plan(0), -1);
    }

    private static void best() {
        Edges.of(21, "BEST: the greatest of pays() less costs() by any PLAN (IV).");
        QuarrelBridge x = Edges.on(EVEN);
        Edges.is("7 for 7", x.best(), 0);
        x.rate(0, 8);
        Edges.is("8 for 7", x.best(), 1);
        x.rate(0, 0);
        Edges.is("not below 0", x.best(), 0);
        x.rate(0, 999);
        Edges.is("999 for 7", x.best(), 992);
        Edges.is("most", Edges.on(EdgeDays.MOST).best(), 5994);
        Edges.is("without CARTS", Edges.on(EdgeDays.BARE).best(), 0);
        Edges.is("late ones pay nothing", Edges.on(Edges.bridge(2, 5, 5, 0, 0), Edges.cart(0, 1, 1, 0, 9)).best(), 0);
        Edges.is("on the due", Edges.on(Edges.bridge(2, 5, 5, 0, 0), Edges.cart(0, 1, 1, 1, 9)).best(), 9);
        Edges.of(21, "-1,000,000: there is no BRIDGE.");
        Edges.is("best", new QuarrelBridge().best(), -1000000);
    }

    private static void firstPlan() {
        Edges.of(22, "The DEED of a DAY by the first such PLAN (the least row, NONE first).");
        // A CART 9 wide from DAY 0 to DAY 2; each DEED makes room for it from its DAY on.
        QuarrelBridge x = Edges.on(Edges.bridge(3, 5, 5, 0, 0), Edges.deed(0, 3, -1, 0), Edges.deed(0, 3, 4, 4),
                Edges.deed(1, 3, 9, 9), Edges.cart(0, 9, 0, 2, 50));
        Edges.is("47", x.best(), 47);
        Edges.row("none is ahead of any, DEED 1 of DEED 2", x::plan, -1, -1, 1);
        Edges.is("ways", x.ways(), 6);
        QuarrelBridge y = Edges.on(Edges.bridge(2, 5, 5, 0, 0), Edges.deed(0, 3, 4, 4), Edges.deed(0, 3, 5, 5),
                Edges.cart(0, 9, 0, 0, 50), Edges.cart(0, 10, 0, 1, 50));
        // 9 on DAY 0 and 10 on DAY 1: by DEED 0 twice, 0 and 1, 1 and none (9, then 10).
        Edges.is("97", y.best(), 97);
        Edges.row("by DEED 1 alone", y::plan, 1, -1);
        // CART 1 never comes: what it would pay is near BEST, and no PLAN brings it.
        QuarrelBridge z = Edges.on(Edges.bridge(1, 5, 5, 0, 0), Edges.deed(0, 1, 1, 1), Edges.cart(0, 6, 0, 0, 9), Edges.cart(0, 1, 9, 9, 7));
        for (int pays = 6; pays <= 10; pays++) {
            z.rate(1, pays);
            Edges.is("BEST", z.best(), 8);
            Edges.is("its one way", z.ways(), 1);
            Edges.row("its PLAN", z::plan, 0);
        }
        Edges.of(22, "NONE: none");
        Edges.row("nothing for nothing", Edges.on(EVEN)::plan, -1);
        Edges.row("of 15,625", Edges.on(ALIKE)::plan, -1, -1, -1, -1, -1, -1);
        Edges.row("without DEEDS", Edges.on(EdgeDays.BARE)::plan, -1);
        Edges.of(22, "-2: there is none such.");
        Edges.none("plan", x::plan, -2, 3);
        Edges.none("plan of none", new QuarrelBridge()::plan, -2, 0);
    }

    private static void ways() {
        Edges.of(23, "How many PLANS are so good.");
        Edges.is("15,625", Edges.on(ALIKE).ways(), 15625);
        QuarrelBridge x = Edges.on(EVEN);
        Edges.is("7 for 7, and none", x.ways(), 2);
        x.rate(0, 8);
        Edges.is("8 for 7", x.ways(), 1);
        x.rate(0, 6);
        Edges.is("6 for 7", x.ways(), 1);
        Edges.is("without DEEDS", Edges.on(EdgeDays.BARE).ways(), 1);
        Edges.is("none but none", Edges.on(EdgeDays.MOST).ways(), 1);
        Edges.of(23, "-2: there is no BRIDGE.");
        Edges.is("ways", new QuarrelBridge().ways(), -2);
    }

    private static void alone() {
        Edges.of(32, "BEST by PLANS of which no other DEED is done.");
        QuarrelBridge x = Edges.on(Edges.bridge(1, 5, 5, 0, 0), Edges.deed(0, 3, 1, 1), Edges.deed(0, 1, 5, 5),
                Edges.deed(1, 99, 30, 30), Edges.deed(1, 0, -1, -1), Edges.cart(0, 6, 0, 0, 9));
        Edges.row("alone", x::alone, 6, 8, 0, 0);
        QuarrelBridge y = Edges.on(Edges.bridge(6, 0, 0, 0, 0), Edges.deed(0, 1, 5, 5), Edges.deed(1, 9, 30, 29),
                Edges.deed(0, 9, 29, 30), Edges.cart(0, 30, 0, 5, 100));
        Edges.row("six times, or twice", y::alone, 94, 82, 82);
        Edges.is("all together", y.best(), 94);
        y.does(0, 1);
        Edges.is("acts aside", y.alone(0), 94);
        QuarrelBridge z = Edges.on(EdgeDays.MOST);
        Edges.row("nothing is done at all", z::alone, 5994, 5994, 5994, 5994);
        Edges.of(32, "-1,000,000: there is none such.");
        Edges.none("alone", x::alone, -1000000, 4);
        Edges.none("alone without DEEDS", Edges.on(EdgeDays.BARE)::alone, -1000000, 0);
        Edges.none("alone of none", new QuarrelBridge()::alone, -1000000, 0);
    }

    private static void value() {
        Edges.of(33, "By how much BEST is less, if a CART paid nothing.");
        QuarrelBridge x = Edges.on(TWO);
        // 13 less 2; without 9: 2; without 4: 9.
        Edges.row("value", x::value, 9, 2);
        x.rate(1, 0);
        Edges.row("of one that pays nothing", x::value, 9, 0);
        x.rate(1, 2);
        Edges.row("of one not worth it", x::value, 9, 0);
        x.rate(1, 3);
        Edges.row("of one just worth it", x::value, 9, 1);
        Edges.row("most", Edges.on(EdgeDays.MOST)::value, 999, 999, 999, 999, 999, 999);
        Edges.is("never comes", Edges.on(EdgeDays.PLAIN).value(3), 0);
        Edges.of(33, "-2: there is none such.");
        Edges.none("value", x::value, -2, 2);
        Edges.none("value without CARTS", Edges.on(EdgeDays.BARE)::value, -2, 0);
        Edges.none("value of none", new QuarrelBridge()::value, -2, 0);
    }

    private static void sets() {
        Edges.of(34, "How many sets of CARTS (none, too) can all pass no later than due by some PLAN.");
        Edges.is("none alone", Edges.on(EdgeDays.BARE).sets(), 1);
        Edges.is("all", Edges.on(EdgeDays.MOST).sets(), 64);
        Edges.is("without what never comes", Edges.on(EdgeDays.PLAIN).sets(), 8);
        // 5 wide: CART 0 alone, 4 wide: CART 1 alone; never both.
        QuarrelBridge x = Edges.on(Edges.bridge(1, 5, 5, 0, 0), Edges.deed(0, 0, -1, -1), Edges.cart(0, 5, 0, 0, 1),
                Edges.cart(0, 4, 0, 0, 1));
        Edges.is("each by a PLAN of its own", x.sets(), 3);
        Edges.is("late ones", Edges.on(Edges.bridge(2, 5, 5, 0, 0), Edges.cart(0, 1, 1, 0, 1)).sets(), 1);
        Edges.of(34, "-2: there is no BRIDGE.");
        Edges.is("sets", new QuarrelBridge().sets(), -2);
    }

    private static void often() {
        Edges.of(35, "In how many PLANS a CART passes no later than due.");
        QuarrelBridge x = Edges.on(ALIKE, Edges.cart(0, 9, 5, 5, 1), Edges.cart(0, 9, 4, 3, 1), Edges.cart(0, 10, 0, 9, 1),
                Edges.cart(0, 1, 6, 9, 1));
        Edges.row("all, and none", x::often, 15625, 0, 0, 0);
        QuarrelBridge y = Edges.on(Edges.bridge(2, 5, 5, 0, 0), Edges.deed(0, 9, 1, 1), Edges.cart(0, 6, 0, 0, 1),
                Edges.cart(0, 6, 0, 1, 1), Edges.cart(0, 7, 0, 1, 1));
        // none none: -; none 0: 6 on DAY 1: CART 0, late. 0 none: 6: CART 0, then CART 1. 0 0: 6: CART 0, 7: CART 1.
        Edges.row("of four", y::often, 2, 2, 0);
        Edges.of(35, "-2: there is none such.");
        Edges.none("often", y::often, -2, 3);
        Edges.none("often without CARTS", Edges.on(EdgeDays.BARE)::often, -2, 0);
        Edges.none("often of none", new QuarrelBridge()::often, -2, 0);
    }

    private static void cheap() {
        Edges.of(36, "CHEAP: the least that a PLAN costs by which all of a set of CARTS (bits) pass no later than due.");
        Edges.row("cheap", Edges.on(TWO)::cheap, 0, 0, 2, 2);
        Edges.is("no CARTS of none", Edges.on(EdgeDays.BARE).cheap(0), 0);
        QuarrelBridge six = Edges.on(EdgeDays.MOST);
        Edges.all("all for nothing", 0, six.cheap(0), six.cheap(1), six.cheap(32), six.cheap(63));
        QuarrelBridge dear = Edges.on(Edges.bridge(6, 0, 0, 0, 0), Edges.deed(0, 99, 5, 5), Edges.cart(0, 30, 0, 5, 1));
        Edges.is("most", dear.cheap(1), 594);
        Edges.of(36, "NONE: by none");
        QuarrelBridge x = Edges.on(EdgeDays.PLAIN);
        Edges.all("one never comes", -1, x.cheap(8), x.cheap(9), x.cheap(15));
        Edges.is("late", Edges.on(Edges.bridge(2, 5, 5, 0, 0), Edges.cart(0, 1, 1, 0, 1)).cheap(1), -1);
        Edges.of(36, "-2: there is no such set, no BRIDGE.");
        Edges.none("cheap", x::cheap, -2, 16);
        Edges.none("cheap of six", six::cheap, -2, 64);
        Edges.none("cheap without CARTS", Edges.on(EdgeDays.BARE)::cheap, -2, 1);
        Edges.none("cheap of none", new QuarrelBridge()::cheap, -2, 0);
        Edges.is("cheap of none", new QuarrelBridge().cheap(0), -2);
    }

    private static void cheaply() {
        Edges.of(37, "The DEED of a DAY by the first such.");
        QuarrelBridge x = Edges.on(Edges.bridge(3, 5, 5, 0, 0), Edges.deed(0, 3, -1, 0), Edges.deed(0, 3, 4, 4),
                Edges.deed(1, 3, 9, 9), Edges.deed(1, 4, 9, 9), Edges.cart(0, 9, 0, 2, 0), Edges.cart(0, 10, 0, 1, 0),
                Edges.cart(0, 1, 3, 9, 0));
        Edges.row("CART 0", day -> x.cheaply(1, day), -1, -1, 1);
        Edges.row("of two PLANS", set -> Edges.on(TWO).cheaply(set, 0), -1, -1, 0, 0);
        // CART 1 by DAY 1, as CART 0 takes 9 of 14.
        Edges.row("both: DEED 2 on DAY 0, then the other", day -> x.cheaply(3, day), 2, -1, -1);
        Edges.row("CART 1 alone, and CART 0 is ahead of it", day -> x.cheaply(2, day), 2, -1, -1);
        Edges.of(37, "NONE: none, there is none such");
        Edges.row("none is done", day -> x.cheaply(0, day), -1, -1, -1);
        Edges.row("by none", day -> x.cheaply(4, day), -1, -1, -1);
        Edges.of(37, "-2: there are none such, no BRIDGE.");
        Edges.none("cheaply of a set", set -> x.cheaply(set, 0), -2, 8);
        Edges.none("cheaply on a DAY", day -> x.cheaply(1, day), -2, 3);
        Edges.is("by none, no such DAY", x.cheaply(4, 3), -2);
        Edges.is("of none", new QuarrelBridge().cheaply(0, 0), -2);
    }

    private static void soonest() {
        Edges.of(38, "The first DAY by which a CART can pass, whatever is done.");
        QuarrelBridge x = Edges.on(Edges.bridge(4, 5, 5, 1, 0), Edges.deed(0, 99, 3, 3), Edges.cart(0, 8, 0, 0, 1),
                Edges.cart(0, 9, 0, 0, 1), Edges.cart(0, 5, 3, 0, 1), Edges.cart(0, 40, 0, 9, 1), Edges.cart(0, 1, 4, 9, 1));
        // At most 8, 10, 12, 14; CART 1 waits where CART 0 passed ahead: 10 on DAY 1.
        Edges.row("soonest", x::soonest, 0, 1, 3);
        for (int day = 0; day < 4; day++) x.does(day, -1);
        Edges.row("acts aside", x::soonest, 0, 1, 3);
        Edges.of(38, "NONE: never");
        Edges.is("too wide", x.soonest(3), -1);
        Edges.is("never comes", x.soonest(4), -1);
        Edges.of(38, "-2: there is none such.");
        Edges.none("soonest", x::soonest, -2, 5);
        Edges.none("soonest without CARTS", Edges.on(EdgeDays.BARE)::soonest, -2, 0);
        Edges.none("soonest of none", new QuarrelBridge()::soonest, -2, 0);
    }

    private static void hold() {
        Edges.of(39, "HOLD: the least that a PLAN costs by which WIDTH is n (0 .. 60) at least on all DAYS.");
        QuarrelBridge x = Edges.on(Edges.bridge(2, 50, 60, 5, 0), Edges.deed(0, 9, 10, 0), Edges.deed(0, 5, 5, 10));
        // None: 50, 45. DEED 1 on DAY 0: 55, 50. DEED 0 on DAY 0: 60, 55. DEED 0, then 1: 60, 60.
        Edges.all("0 to 45", 0, x.hold(0), x.hold(1), x.hold(45));
        Edges.all("46 to 50", 5, x.hold(46), x.hold(50));
        Edges.all("51 to 55", 9, x.hold(51), x.hold(55));
        Edges.all("56 to 60", 14, x.hold(56), x.hold(60));
        x.does(0, 0);
        Edges.is("acts aside", x.hold(60), 14);
        Edges.is("60 for nothing", Edges.on(EdgeDays.MOST).hold(60), 0);
        Edges.of(39, "NONE: by none");
        Edges.is("60 of 59", Edges.on(Edges.bridge(1, 59, 60, 0, 0)).hold(60), -1);
        Edges.is("1 of 0", Edges.on(Edges.bridge(1, 60, 0, 0, 0)).hold(1), -1);
        Edges.is("the last DAY alone is less", Edges.on(Edges.bridge(6, 60, 60, 1, 0)).hold(56), -1);
        Edges.is("but just so", Edges.on(Edges.bridge(6, 60, 60, 1, 0)).hold(55), 0);
        Edges.of(39, "-2: there is no such n, no BRIDGE.");
        Edges.none("hold", x::hold, -2, 61);
        Edges.none("hold of none", new QuarrelBridge()::hold, -2, 0);
        Edges.is("hold of none", new QuarrelBridge().hold(0), -2);
    }

    private static void widest() {
        Edges.of(40, "The greatest least WIDTH of all DAYS by any PLAN.");
        Edges.is("0", Edges.on(Edges.bridge(6, 0, 60, 0, 0), Edges.deed(0, 0, -30, 0)).widest(), 0);
        Edges.is("60", Edges.on(EdgeDays.MOST).widest(), 60);
        Edges.is("the last DAY", Edges.on(Edges.bridge(6, 60, 60, 1, 0)).widest(), 55);
        Edges.is("by DEEDS", Edges.on(Edges.bridge(2, 50, 60, 5, 0), Edges.deed(0, 9, 10, 0), Edges.deed(0, 5, 5, 10)).widest(), 60);
        Edges.is("the first DAY", Edges.on(Edges.bridge(2, 0, 60, 5, 0), Edges.deed(0, 9, 1, 0), Edges.deed(0, 5, 30, 0)).widest(), 30);
        Edges.of(40, "-2: there is no BRIDGE.");
        Edges.is("widest", new QuarrelBridge().widest(), -2);
    }

    private static void most() {
        Edges.of(41, "The greatest WIDTH on a DAY by any PLAN.");
        QuarrelBridge x = Edges.on(Edges.bridge(3, 9, 20, 2, 0), Edges.deed(0, 99, 30, 0), Edges.deed(1, 99, 0, 30));
        // DAY 1: 37 and 18, or 67 and 18: SIDE 1 has 18, or 48 by DEED 1 (SIDE 0 37 by DEED 0 ahead).
        Edges.row("most", x::most, 20, 37, 46);
        x.does(2, 1);
        Edges.row("acts aside", x::most, 20, 37, 46);
        Edges.row("60", Edges.on(EdgeDays.MOST)::most, 60, 60, 60, 60, 60, 60);
        Edges.row("0", Edges.on(Edges.bridge(2, 0, 60, 0, 0), Edges.deed(0, 0, -30, 30))::most, 0, 0);
        Edges.of(41, "-2: there is none such.");
        Edges.none("most", x::most, -2, 3);
        Edges.none("most of none", new QuarrelBridge()::most, -2, 0);
    }

    private static void abreast() {
        QuarrelBridge x = Edges.on(Edges.bridge(1, 0, 0, 0, 0), Edges.cart(0, 40, 9, 0, 1).repeat(6));
        QuarrelBridge y = Edges.on(Edges.bridge(1, 0, 0, 0, 0), Edges.cart(0, 1, 9, 0, 1).repeat(5), Edges.cart(0, 40, 0, 0, 9));
        Edges.of(42, "ABREAST: the most CARTS, whoever, whenever they come, that pass in a WIDTH (0 .. 99) at once.");
        Edges.all("40 wide", 0, x.abreast(0), x.abreast(39));
        Edges.all("40 wide", 1, x.abreast(40), x.abreast(79));
        Edges.all("40 wide", 2, x.abreast(80), x.abreast(99));
        Edges.row("1 wide", y::abreast, 0, 1, 2, 3, 4, 5, 5);
        Edges.all("and one of 40", 6, y.abreast(45), y.abreast(99));
        Edges.is("just short", y.abreast(44), 5);
        Edges.all("without CARTS", 0, Edges.on(EdgeDays.BARE).abreast(0), Edges.on(EdgeDays.BARE).abreast(99));
        Edges.of(42, "-2: there is none such, no BRIDGE.");
        Edges.none("abreast", x::abreast, -2, 100);
        Edges.is("of none", new QuarrelBridge().abreast(0), -2);
        Edges.of(43, "The greatest pay of CARTS that pass in it at once.");
        Edges.all("40 wide", 0, x.load(0), x.load(39));
        Edges.all("40 wide", 1, x.load(40), x.load(79));
        Edges.all("40 wide", 2, x.load(80), x.load(99));
        Edges.row("1 wide", y::load, 0, 1, 2, 3, 4, 5, 5);
        Edges.all("one of 40", 9, y.load(40));
        Edges.all("and five", 14, y.load(45), y.load(99));
        Edges.is("most", Edges.on(EdgeDays.MOST).load(60), 5994);
        Edges.is("without CARTS", Edges.on(EdgeDays.BARE).load(99), 0);
        Edges.of(43, "-2 likewise.");
        Edges.none("load", x::load, -2, 100);
        Edges.is("of none", new QuarrelBridge().load(0), -2);
    }

    private static void loads() {
        Edges.of(44, "Which, as bits: the least set.");
        QuarrelBridge x = Edges.on(Edges.bridge(1, 0, 0, 0, 0), Edges.cart(0, 3, 9, 0, 5), Edges.cart(0, 3, 9, 0, 5),
                Edges.cart(0, 1, 9, 0, 0), Edges.cart(0, 2, 9, 0, 4), Edges.cart(0, 4, 9, 0, 9));
        Edges.row("loads", x::loads, 0, 0, 8, 1, 16, 9, 24);
        Edges.is("all that pay", x.loads(12), 27);
        Edges.is("all that pay, the least set", x.loads(99), 27);
        QuarrelBridge y = Edges.on(Edges.bridge(1, 0, 0, 0, 0), Edges.cart(0, 1, 0, 0, 0).repeat(6));
        Edges.is("none pays", y.loads(99), 0);
        Edges.is("all", Edges.on(EdgeDays.MOST).loads(60), 63);
        Edges.is("the five least", Edges.on(EdgeDays.MOST).loads(59), 31);
        Edges.is("without CARTS", Edges.on(EdgeDays.BARE).loads(99), 0);
        Edges.of(44, "-2 likewise.");
        Edges.none("loads", x::loads, -2, 100);
        Edges.is("of none", new QuarrelBridge().loads(0), -2);
    }

    private static void queue() {
        Edges.of(45, "QUEUE: the first DAY by whose end all CARTS have passed (0 without any), if on each DAY they pass by the"
                + " best order in place of numbers (one for all DAYS; deeds as done).");
        Edges.is("without any", Edges.on(Edges.bridge(6, 0, 0, 0, 0)).queue(), 0);
        Edges.is("at once", Edges.on(EdgeDays.MOST).queue(), 0);
        Edges.is("one a DAY", Edges.on(Edges.bridge(6, 5, 5, 0, 0), Edges.cart(0, 5, 0, 0, 1).repeat(6)).queue(), 5);
        QuarrelBridge x = Edges.on(Edges.bridge(3, 10, 10, 0, 0), Edges.deed(0, 0, 3, 3), Edges.cart(0, 6, 0, 0, 1),
                Edges.cart(0, 3, 0, 0, 1), Edges.cart(0, 7, 0, 0, 1), Edges.cart(0, 4, 0, 0, 1));
        Edges.is("in place of numbers", x.queue(), 1);
        Edges.is("by numbers", x.passes(3), 2);
        QuarrelBridge y = Edges.on(Edges.bridge(6, 10, 10, 0, 0), Edges.cart(0, 1, 5, 0, 1), Edges.cart(0, 9, 0, 0, 1));
        Edges.is("as the last comes", y.queue(), 5);
        // 10, then 5: CART 1 (6) must stand ahead of CART 0 (5) on DAY 0, whoever comes then.
        QuarrelBridge z = Edges.on(Edges.bridge(2, 10, 10, 5, 0), Edges.cart(0, 5, 0, 9, 1), Edges.cart(0, 6, 0, 9, 1));
        Edges.is("another first", z.queue(), 1);
        // DAY 0: 5. DAY 1: 5 and 4. DAY 2: 9.
        QuarrelBridge w = Edges.on(Edges.bridge(3, 9, 9, 0, 0), Edges.cart(0, 5, 0, 9, 1), Edges.cart(0, 5, 0, 9, 1),
                Edges.cart(0, 4, 1, 9, 1), Edges.cart(0, 9, 2, 9, 1));
        Edges.is("all by DAY 2", w.queue(), 2);
        Edges.of(45, "NONE: by none");
        Edges.is("too wide", Edges.on(Edges.bridge(6, 5, 5, 0, 0), Edges.cart(0, 6, 0, 0, 1)).queue(), -1);
        Edges.is("never comes", Edges.on(EdgeDays.PLAIN).queue(), -1);
        Edges.is("too many", Edges.on(Edges.bridge(5, 5, 5, 0, 0), Edges.cart(0, 5, 0, 0, 1).repeat(6)).queue(), -1);
        QuarrelBridge v = Edges.on(Edges.bridge(1, 5, 5, 0, 0), Edges.deed(0, 0, 1, 1), Edges.cart(0, 6, 0, 0, 1));
        Edges.is("deeds as done: none", v.queue(), -1);
        v.does(0, 0);
        Edges.is("deeds as done", v.queue(), 0);
        Edges.of(45, "-2: there is no BRIDGE.");
        Edges.is("queue", new QuarrelBridge().queue(), -2);
    }

    private static void queues() {
        Edges.of(46, "CART i (from 0) of the first such order (the least row).");
        Edges.row("by numbers", Edges.on(EdgeDays.MOST)::queues, 0, 1, 2, 3, 4, 5);
        QuarrelBridge x = Edges.on(Edges.bridge(3, 10, 10, 0, 0), Edges.cart(0, 6, 0, 0, 1), Edges.cart(0, 3, 0, 0, 1),
                Edges.cart(0, 7, 0, 0, 1), Edges.cart(0, 4, 0, 0, 1));
        Edges.row("6 and 4, then 7 and 3", x::queues, 0, 2, 3, 1);
        // 40, 39, .. 35: only the widest first, as it cools by one a DAY.
        QuarrelBridge y = Edges.on(Edges.bridge(6, 40, 60, 1, 0), Edges.cart(0, 35, 0, 0, 1), Edges.cart(0, 36, 0, 0, 1),
                Edges.cart(0, 37, 0, 0, 1), Edges.cart(0, 38, 0, 0, 1), Edges.cart(0, 39, 0, 0, 1), Edges.cart(0, 40, 0, 0, 1));
        Edges.row("the last of 720", y::queues, 5, 4, 3, 2, 1, 0);
        Edges.is("by the last DAY", y.queue(), 5);
        everyOrder(new int[5], 0);
        Edges.of(46, "NONE: there is none such");
        Edges.none("queues", x::queues, -1, 4);
        Edges.row("without CARTS", Edges.on(EdgeDays.BARE)::queues, -1, -1);
        Edges.row("by none", Edges.on(EdgeDays.PLAIN)::queues, -1, -1, -1, -1, -1);
        Edges.of(46, "-2 likewise.");
        Edges.none("queues of none", new QuarrelBridge()::queues, -2, 0);
        Edges.is("queues of none", new QuarrelBridge().queues(0), -2);
    }

    /** For each order a BRIDGE by which it is the only one: the widest CART first, as WIDTH is one less a DAY. */
    private static void everyOrder(int[] order, int size) {
        if (size < order.length) {
            for (int cart = 0; cart < order.length; cart++) {
                boolean used = false;
                for (int i = 0; i < size; i++) used |= order[i] == cart;
                order[size] = cart;
                if (!used) everyOrder(order, size + 1);
            }
            return;
        }
        String[] carts = new String[order.length];
        for (int i = 0; i < order.length; i++) carts[order[i]] = Edges.cart(0, 40 - i, 0, 9, 1);
        QuarrelBridge x = Edges.on(Edges.bridge(6, 40, 60, 1, 0), String.join("", carts));
        for (int i = 0; i < order.length; i++) Edges.is("the one order that is left, " + i, x.queues(i), order[i]);
    }

    private static void line() {
        Edges.of(47, "The most that kept() can pay by any order.");
        Edges.is("most", Edges.on(EdgeDays.MOST).line(), 5994);
        Edges.is("without CARTS", Edges.on(EdgeDays.BARE).line(), 0);
        QuarrelBridge x = Edges.on(Edges.bridge(2, 5, 5, 0, 0), Edges.deed(0, 0, -30, 0), Edges.cart(0, 5, 0, 0, 1),
                Edges.cart(0, 5, 0, 0, 2), Edges.cart(0, 5, 0, 1, 4), Edges.cart(0, 5, 0, 1, 3), Edges.cart(0, 6, 0, 9, 9));
        // One on each DAY; DAY 0: any, DAY 1: CART 2 or 3.
        Edges.is("two, of which one is due later", x.line(), 7);
        Edges.is("by numbers", x.pays(), 1);
        x.does(0, 0);
        Edges.is("deeds as done", x.line(), 0);
        Edges.is("though not all pass", Edges.on(EdgeDays.PLAIN).line(), 15);
        Edges.of(47, "-2 likewise.");
        Edges.is("line", new QuarrelBridge().line(), -2);
    }
}
