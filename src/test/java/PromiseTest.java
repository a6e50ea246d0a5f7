/** Promises 6 to 74 by answers worked out by hand, with their edges and wrong inputs. */
public final class PromiseTest {
    /**
     * Nothing done: feelings 10 7, 8 5, 6 3; WIDTHS 7, 5, 3. CART 0 passes on DAY 0
     * (3 left), CART 1 on DAY 1 (0 left), CART 2 on DAY 2 (0 left), CART 3 never comes.
     */
    private static final String PLAIN = "bridge days 3 feels 10 feels 7 cools 2 odds 3;"
            + "deed by 0 costs 4 gives 3 gives 5;"
            + "deed by 1 costs 1 takes 20 gives 2;"
            + "cart on 0 wide 4 from 0 due 0 pays 10;"
            + "cart on 1 wide 5 from 0 due 0 pays 7;"
            + "cart on 0 wide 3 from 2 due 2 pays 5;"
            + "cart on 1 wide 1 from 3 due 9 pays 100;";
    private static final Due DUE = new Due("PromiseTest");
    private static final int LOW = Integer.MIN_VALUE;
    private static final int HIGH = Integer.MAX_VALUE;

    public static void main(String[] args) {
        noBridge();
        toldOnes();
        feelingsAndWidths();
        clamps();
        passing();
        accounts();
        kindDeeds();
        bestPlans();
        cheapPlans();
        holding();
        abreast();
        orders();
        slights();
        cooling();
        treaties();
        treatyOrder();
        shares();
        chances();
        draws();
        acts();
        rates();
        images();
        rows();
        writes();
        pastes();
        DUE.close();
    }

    private static void is(String call, long got, long want) {
        DUE.is(call, got, want);
    }

    private static void noBridge() {
        QuarrelBridge x = new QuarrelBridge();
        x.row(0, 0, 0);
        int[] minusTwo = {x.cart(0, 0), x.width(0), x.narrow(), x.shut(), x.passes(0), x.over(0), x.waits(0), x.room(0),
            x.stuck(), x.lost(), x.kept(), x.pays(), x.costs(), x.plan(0), x.ways(), x.peak(), x.lacks(0), x.crowd(),
            x.late(), x.delay(), x.toll(0), x.gap(0), x.kind(0), x.value(0), x.sets(), x.often(0), x.cheap(0),
            x.cheaply(0, 0), x.soonest(0), x.hold(0), x.widest(), x.most(0), x.abreast(0), x.load(0), x.loads(0),
            x.queue(), x.queues(0), x.line(), x.fits(0), x.slights(0), x.slight(0), x.ask(0), x.leaves(0), x.cools(0),
            x.cool(0), x.rests(0), x.rest(0), x.fair(0), x.leave(0), (int) x.chance(0, 0, 0), x.when(0), x.drawn(0, 0),
            x.luck(0, 1, 0), x.does(0, -1), x.undo(), x.anew(), x.done(0), x.rate(0, 0), x.fits(1), x.fair(1)};
        for (int i = 0; i < minusTwo.length; i++) {
            is("without a BRIDGE, call " + i, minusTwo[i], -2);
        }
        is("deed, none", x.deed(0, 0), -1000);
        is("feels, none", x.feels(0, 0), -1000);
        is("best, none", x.best(), -1000000);
        is("alone, none", x.alone(0), -1000000);
        is("has, none", x.has(0, -1, -1, 0), -1000000);
    }

    private static void toldOnes() {
        QuarrelBridge x = Texts.told(PLAIN);
        int[][] deeds = {{0, 4, 3, 5}, {1, 1, -20, 2}};
        int[][] carts = {{0, 4, 0, 0, 10}, {1, 5, 0, 0, 7}, {0, 3, 2, 2, 5}, {1, 1, 3, 9, 100}};
        for (int d = 0; d < 2; d++) {
            for (int what = 0; what < 4; what++) is("deed " + d + " " + what, x.deed(d, what), deeds[d][what]);
        }
        for (int c = 0; c < 4; c++) {
            for (int what = 0; what < 5; what++) is("cart " + c + " " + what, x.cart(c, what), carts[c][what]);
        }
        int[] no = {x.deed(2, 0), x.deed(-1, 0), x.deed(0, 4), x.deed(0, -1), x.deed(LOW, HIGH)};
        for (int got : no) is("no such deed", got, -1000);
        int[] none = {x.cart(4, 0), x.cart(-1, 0), x.cart(0, 5), x.cart(0, -1), x.cart(HIGH, LOW)};
        for (int got : none) is("no such cart", got, -2);
        int[] counts = {3, 2, 3, 2, 4, 0, 7, 0, 0};
        for (int what = 0; what <= 8; what++) is("count " + what, x.count(what), counts[what]);
        is("count -1", x.count(-1), -1);
        is("count 9", x.count(9), -1);
    }

    private static void feelingsAndWidths() {
        QuarrelBridge x = Texts.told(PLAIN);
        int[][] feels = {{10, 8, 6}, {7, 5, 3}};
        for (int d = 0; d < 3; d++) {
            is("feels 0 " + d, x.feels(0, d), feels[0][d]);
            is("feels 1 " + d, x.feels(1, d), feels[1][d]);
            is("width " + d, x.width(d), feels[1][d]);
            is("gap " + d, x.gap(d), 3);
        }
        int[] no = {x.feels(2, 0), x.feels(-1, 0), x.feels(0, 3), x.feels(0, -1)};
        for (int got : no) is("no such feeling", got, -1000);
        int[] none = {x.width(3), x.width(-1), x.gap(3), x.gap(-1)};
        for (int got : none) is("no such day", got, -2);
        is("narrow", x.narrow(), 2);
        is("peak", x.peak(), 0);
        is("shut", x.shut(), 0);
        x.does(1, 0); // 10 7, 11 10, 9 8
        is("feels 0 1 by deed 0", x.feels(0, 1), 11);
        is("feels 1 1 by deed 0", x.feels(1, 1), 10);
        is("feels 1 2 behind it", x.feels(1, 2), 8);
        is("narrow then", x.narrow(), 0);
        is("peak then", x.peak(), 1);
        is("gap then", x.gap(1), 1);
        x.does(0, 1); // 0 9, 3 12, 1 10
        is("shut then", x.shut(), 1);
        is("width by deed 1", x.width(0), 0);
        is("gap by deed 1", x.gap(0), 9);
        is("feels 1 1 by both", x.feels(1, 1), 12);
        QuarrelBridge y = Texts.told("bridge days 3 feels 4 feels 4 cools 0 odds 0;");
        is("narrow, the first of several", y.narrow(), 0);
        is("peak, the first of several", y.peak(), 0);
    }

    private static void clamps() {
        QuarrelBridge x = Texts.told("bridge days 3 feels 50 feels 8 cools 9 odds 0;deed by 0 costs 0 gives 30 takes 30;");
        x.does(0, 0);
        is("60 at most", x.feels(0, 0), 60);
        is("0 at least", x.feels(1, 0), 0);
        is("cools from 60", x.feels(0, 1), 51);
        is("cools from 0", x.feels(1, 1), 0);
        is("shut on all", x.shut(), 7);
        x.anew();
        is("cools to 0 at least", x.feels(1, 1), 0);
        is("shut behind the first", x.shut(), 6);
    }

    private static void passing() {
        QuarrelBridge x = Texts.told(PLAIN);
        int[] passes = {0, 1, 2, -1};
        int[] over = {1, 2, 4};
        int[] waits = {2, 0, 0};
        int[] room = {3, 0, 0};
        int[] toll = {10, 7, 5};
        for (int c = 0; c < 4; c++) is("passes " + c, x.passes(c), passes[c]);
        for (int d = 0; d < 3; d++) {
            is("over " + d, x.over(d), over[d]);
            is("waits " + d, x.waits(d), waits[d]);
            is("room " + d, x.room(d), room[d]);
            is("toll " + d, x.toll(d), toll[d]);
        }
        int[] none = {x.passes(4), x.passes(-1), x.over(3), x.over(-1), x.waits(3), x.waits(-1), x.room(3), x.room(-1),
            x.toll(3), x.toll(-1), x.lacks(4), x.lacks(-1)};
        for (int got : none) is("none such", got, -2);
        is("stuck", x.stuck(), 1);
        is("lost", x.lost(), 8);
        is("kept", x.kept(), 5);
        is("late", x.late(), 2);
        is("delay", x.delay(), 1);
        is("crowd", x.crowd(), 0);
        is("lacks 0", x.lacks(0), 0);
        is("lacks 1", x.lacks(1), 0);
        is("lacks 2", x.lacks(2), 0);
        is("lacks 3, never there", x.lacks(3), 1);
        x.does(0, 0); // 13 12, 11 10, 9 8: 0 and 1 pass on DAY 0
        is("stuck then", x.stuck(), -1);
        is("over then", x.over(0), 3);
        is("room then", x.room(0), 3);
        is("crowd then", x.crowd(), 0);
        is("kept then", x.kept(), 7);
        is("delay then", x.delay(), 0);
        // A later, narrower CART passes one that waits; due ahead of from.
        QuarrelBridge y = Texts.told("bridge days 3 feels 5 feels 9 cools 0 odds 0;deed by 1 costs 0 gives 4 gives 0;"
                + "cart on 0 wide 8 from 1 due 0 pays 9;cart on 0 wide 3 from 1 due 1 pays 8;cart on 1 wide 2 from 1 due 1 pays 7;"
                + "cart on 1 wide 6 from 0 due 1 pays 1;");
        is("narrower ones pass", y.over(1), 6);
        is("wide ones wait", y.waits(1), 9);
        is("nothing on DAY 0", y.over(0), 0);
        is("crowd, not the first DAY", y.crowd(), 1);
        is("stuck by DAYS, not numbers", y.stuck(), 3);
        is("lacks without DAYS", y.lacks(0), 8);
        is("lacks", y.lacks(3), 1);
        is("lost", y.lost(), 9);
        y.does(2, 0); // WIDTH 9 on DAY 2: CART 0 passes, CART 3 does not
        is("late", y.late(), 1);
        is("toll of a late one", y.toll(2), 9);
        is("delay", y.delay(), 1);
        QuarrelBridge z = Texts.told("bridge days 2 feels 5 feels 9 cools 0 odds 0;cart on 0 wide 6 from 0 due 1 pays 9;");
        is("crowd of none", z.crowd(), -1);
    }

    private static void accounts() {
        QuarrelBridge x = Texts.told(PLAIN);
        is("pays", x.pays(), 15);
        is("costs", x.costs(), 0);
        x.does(0, 0);
        is("pays by deed 0", x.pays(), 22);
        is("costs by deed 0", x.costs(), 4);
        x.does(2, 1);
        x.does(1, 0);
        is("costs of three", x.costs(), 9);
    }

    private static void kindDeeds() {
        QuarrelBridge x = Texts.told(PLAIN);
        is("kind", x.kind(0), 0);
        is("kind 3", x.kind(3), -2);
        is("kind -1", x.kind(-1), -2);
        x.does(0, 0);
        is("kind: not greater than now", x.kind(0), -1);
        x.does(0, 1);
        is("kind in place of a bad one", x.kind(0), 0);
        QuarrelBridge y = Texts.told("bridge days 1 feels 5 feels 5 cools 0 odds 0;deed by 0 costs 0 gives 2 gives 1;"
                + "deed by 0 costs 9 gives 4 gives 4;deed by 1 costs 0 gives 4 gives 4;");
        is("kind, the first of several", y.kind(0), 1);
    }

    private static void bestPlans() {
        QuarrelBridge x = Texts.told(PLAIN);
        // Deed 0 on DAY 0 keeps 0, 1, 2: 22 less 4; on none 15.
        is("best", x.best(), 18);
        is("plan 0", x.plan(0), 0);
        is("plan 1", x.plan(1), -1);
        is("plan 2", x.plan(2), -1);
        is("ways", x.ways(), 1);
        is("alone 0", x.alone(0), 18);
        is("alone 1", x.alone(1), 15);
        is("alone 2", x.alone(2), -1000000);
        is("alone -1", x.alone(-1), -1000000);
        is("plan 3", x.plan(3), -2);
        is("plan -1", x.plan(-1), -2);
        is("value 0", x.value(0), 10);
        is("value 1", x.value(1), 3);
        is("value 2", x.value(2), 5);
        is("value 3", x.value(3), 0);
        is("value 4", x.value(4), -2);
        is("value -1", x.value(-1), -2);
        x.does(0, 1);
        is("best, acts aside", x.best(), 18);
        // 5 5 and 5 for one CART 7 wide: deed 0 or 1, on DAY 0 or 1, 10 less 2; both or twice cost more.
        QuarrelBridge y = Texts.told("bridge days 2 feels 5 feels 5 cools 0 odds 0;deed by 0 costs 2 gives 2 gives 2;"
                + "deed by 1 costs 2 gives 3 gives 3;cart on 0 wide 7 from 0 due 9 pays 10;");
        is("best of several", y.best(), 8);
        is("ways of several", y.ways(), 4);
        is("the least row, NONE first: DAY 0", y.plan(0), -1);
        is("the least row: DAY 1", y.plan(1), 0);
        is("often", y.often(0), 8);
        is("often 1", y.often(1), -2);
        is("often -1", y.often(-1), -2);
        QuarrelBridge z = Texts.told("bridge days 2 feels 5 feels 5 cools 0 odds 0;deed by 0 costs 0 gives 2 gives 2;"
                + "cart on 0 wide 7 from 0 due 9 pays 0;");
        is("best of nothing", z.best(), 0);
        is("ways of nothing", z.ways(), 4);
        is("nothing is done first", z.plan(1), -1);
        y.rate(0, 1);
        is("best by another rate", y.best(), 0);
        is("ways by another rate", y.ways(), 1);
    }

    private static void cheapPlans() {
        QuarrelBridge x = Texts.told(PLAIN);
        is("cheap of none", x.cheap(0), 0);
        is("cheap 1", x.cheap(1), 0);
        is("cheap 2", x.cheap(2), 4);
        is("cheap 5", x.cheap(5), 0);
        is("cheap 7", x.cheap(7), 4);
        is("cheap of one that never comes", x.cheap(8), -1);
        is("cheap 15", x.cheap(15), -1);
        is("cheap 16", x.cheap(16), -2);
        is("cheap -1", x.cheap(-1), -2);
        is("cheaply 2 0", x.cheaply(2, 0), 0);
        is("cheaply 2 1", x.cheaply(2, 1), -1);
        is("cheaply 1 0", x.cheaply(1, 0), -1);
        is("cheaply of none such", x.cheaply(8, 0), -1);
        is("cheaply 16 0", x.cheaply(16, 0), -2);
        is("cheaply -1 0", x.cheaply(-1, 0), -2);
        is("cheaply 1 3", x.cheaply(1, 3), -2);
        is("cheaply 8 3", x.cheaply(8, 3), -2);
        is("cheaply 1 -1", x.cheaply(1, -1), -2);
        is("sets", x.sets(), 8);
        int[] soonest = {0, 0, 2, -1};
        for (int c = 0; c < 4; c++) is("soonest " + c, x.soonest(c), soonest[c]);
        is("soonest 4", x.soonest(4), -2);
        is("soonest -1", x.soonest(-1), -2);
    }

    private static void holding() {
        QuarrelBridge x = Texts.told(PLAIN);
        is("hold 0", x.hold(0), 0);
        is("hold 3", x.hold(3), 0);
        is("hold 4", x.hold(4), 4);
        // DAY 0 7, then deed 0 on 1: 10, 8; or on 0: 12, 10, 8. Twice is 8.
        is("hold 7", x.hold(7), 4);
        is("hold 8", x.hold(8), 4);
        is("hold 9", x.hold(9), 8);
        // 13 12, then twice: 14 15, 15 18.
        is("hold 12", x.hold(12), 8);
        is("hold 13", x.hold(13), -1);
        is("hold 60", x.hold(60), -1);
        is("hold 61", x.hold(61), -2);
        is("hold -1", x.hold(-1), -2);
        is("widest", x.widest(), 12);
        is("most 0", x.most(0), 12);
        is("most 1", x.most(1), 14);
        is("most 2", x.most(2), 15);
        is("most 3", x.most(3), -2);
        is("most -1", x.most(-1), -2);
        QuarrelBridge y = Texts.told("bridge days 2 feels 60 feels 60 cools 0 odds 0;deed by 0 costs 5 takes 30 gives 30;");
        is("hold 60 of 60", y.hold(60), 0);
        is("widest 60", y.widest(), 60);
        is("most 60", y.most(1), 60);
        QuarrelBridge z = Texts.told("bridge days 2 feels 0 feels 60 cools 0 odds 0;");
        is("widest 0", z.widest(), 0);
        is("hold 1 of 0", z.hold(1), -1);
    }

    private static void abreast() {
        QuarrelBridge x = Texts.told(PLAIN); // wide 4, 5, 3, 1; pays 10, 7, 5, 100
        int[][] due = {{0, 0, 0, 0}, {1, 1, 100, 8}, {3, 1, 100, 8}, {4, 2, 105, 12}, {5, 2, 110, 9}, {8, 3, 115, 13},
            {10, 3, 117, 11}, {12, 3, 117, 11}, {13, 4, 122, 15}, {99, 4, 122, 15}};
        for (int[] one : due) {
            is("abreast " + one[0], x.abreast(one[0]), one[1]);
            is("load " + one[0], x.load(one[0]), one[2]);
            is("loads " + one[0], x.loads(one[0]), one[3]);
        }
        int[] none = {x.abreast(-1), x.abreast(100), x.load(-1), x.load(100), x.loads(-1), x.loads(100)};
        for (int got : none) is("no such width", got, -2);
        QuarrelBridge y = Texts.told("bridge days 1 feels 0 feels 0 cools 0 odds 0;cart on 0 wide 2 from 0 due 0 pays 5;"
                + "cart on 0 wide 2 from 0 due 0 pays 5;cart on 0 wide 1 from 0 due 0 pays 0;");
        is("loads, the least set", y.loads(3), 1);
    }

    private static void orders() {
        // WIDTH 10 on each DAY: by numbers 6 and 3, then 7, then 4.
        QuarrelBridge x = Texts.told("bridge days 3 feels 10 feels 10 cools 0 odds 0;deed by 0 costs 0 takes 10 gives 0;"
                + "cart on 0 wide 6 from 0 due 0 pays 5;cart on 1 wide 3 from 0 due 0 pays 2;cart on 0 wide 7 from 0 due 0 pays 9;"
                + "cart on 1 wide 4 from 0 due 1 pays 1;");
        // 6 and 4, then 7 and 3: CART 3 stands ahead of 1; 2 may stand ahead of both, as it waits by itself.
        is("queue", x.queue(), 1);
        int[] first = {0, 2, 3, 1};
        for (int i = 0; i < 4; i++) is("queues " + i, x.queues(i), first[i]);
        is("queues 4", x.queues(4), -1);
        is("queues -1", x.queues(-1), -1);
        is("pays by numbers", x.pays(), 7);
        // 1 and 2 on DAY 0 (11), then 3 on DAY 1 (1).
        is("line", x.line(), 12);
        x.does(1, 0); // feels 0 0 on DAY 1 and 2
        is("queue by none", x.queue(), -1);
        is("queues by none", x.queues(0), -1);
        is("line by one DAY", x.line(), 11);
        // 10, then 5: 6 must go ahead of the first 5, with 4.
        QuarrelBridge z = Texts.told("bridge days 2 feels 10 feels 10 cools 5 odds 0;cart on 0 wide 5 from 0 due 9 pays 1;"
                + "cart on 0 wide 6 from 0 due 9 pays 1;cart on 0 wide 4 from 0 due 9 pays 1;");
        is("queue behind another first", z.queue(), 1);
        int[] behind = {1, 0, 2};
        for (int i = 0; i < 3; i++) is("queues " + i + " behind another first", z.queues(i), behind[i]);
        QuarrelBridge y = Texts.told("bridge days 1 feels 5 feels 5 cools 0 odds 0;");
        is("queue without CARTS", y.queue(), 0);
        is("queues without CARTS", y.queues(0), -1);
        is("line without CARTS", y.line(), 0);
    }

    private static void tell(QuarrelBridge x, int slot, int width, long... row) {
        is("row", x.row(slot, width, row.length), 0);
        for (int i = 0; i < row.length; i++) is("write " + i, x.write(slot, i, row[i]), 0);
    }

    private static void slights() {
        QuarrelBridge x = Texts.told(PLAIN);
        // WIDTHS by deed 0 on DAY 0: 12 10 8; on 1: 7 10 8; on 2: 7 5 8. By deed 1 on 0: 0 0 0; on 1: 7 0 0; on 2: 7 5 0.
        tell(x, 1, 0);
        is("fits, nothing told", x.fits(1), 6);
        is("slights", x.slights(1), 3);
        is("slight", x.slight(1), 0);
        // DAY 0: 7 four times; DAY 1: 10 10, 5 5, 0 0; DAY 2: 8 8 8, 0 0 0.
        is("ask", x.ask(1), 1);
        is("leaves", x.leaves(1), 2);
        tell(x, 0, 3, 0, 7, 2, 0);
        is("fits two", x.fits(0), 2);
        is("slights two", x.slights(0), 2);
        is("slight of two", x.slight(0), 11);
        is("ask of two", x.ask(0), 1);
        is("leaves of two", x.leaves(0), 1);
        tell(x, 0, 0, 1, 5, 2, 8);
        is("fits one", x.fits(0), 1);
        is("slight of one", x.slight(0), 2);
        is("ask of one", x.ask(0), -1);
        is("leaves of one", x.leaves(0), 1);
        tell(x, 0, 0, 1, 5, 1, 6);
        is("fits none", x.fits(0), 0);
        is("slights none", x.slights(0), 0);
        is("slight none", x.slight(0), -1);
        is("ask of none", x.ask(0), -1);
        is("leaves of none", x.leaves(0), 0);
        tell(x, 0, 0, 0, 60, 2, 0);
        is("fits 60", x.fits(0), 0);
        wrongRows(x);
        x.does(0, 0);
        tell(x, 0, 0, 0, 12, 1, 10, 2, 8);
        is("also the same one", x.slight(0), 0);
        is("fits as done", x.fits(0), 1);
    }

    private static void wrongRows(QuarrelBridge x) {
        long[][] wrong = {{0}, {0, 7, 1}, {3, 0}, {-1, 0}, {0, 61}, {0, -1}, {0, 7, 0, 61}, {4294967296L, 7}, {0, 4294967303L}};
        for (long[] row : wrong) {
            tell(x, 2, 3, row);
            int[] all = {x.fits(2), x.slights(2), x.slight(2), x.ask(2), x.leaves(2), x.cools(2), x.cool(2)};
            for (int got : all) is("a wrong row", got, -2);
        }
        int[] nothing = {x.fits(3), x.slights(3), x.slight(3), x.ask(3), x.leaves(3), x.cools(3), x.cool(3), x.fair(3), x.leave(3)};
        for (int got : nothing) is("nothing in it", got, -6);
        int[] none = {x.fits(4), x.slights(-1), x.slight(4), x.ask(-1), x.leaves(4), x.cools(-1), x.cool(4), x.fair(4), x.leave(-1)};
        for (int got : none) is("no such SLOT", got, -2);
    }

    private static void cooling() {
        QuarrelBridge x = Texts.told(PLAIN);
        tell(x, 0, 1, 0, 7);
        is("cools, all", x.cools(0), 10);
        is("cool, least", x.cool(0), 0);
        tell(x, 0, 1, 1, 5);
        is("cools, one", x.cools(0), 1);
        is("cool, one", x.cool(0), 2);
        tell(x, 0, 1, 2, 0); // 7 less twice 4 and more
        is("cools, to 0", x.cools(0), 6);
        is("cool, to 0", x.cool(0), 4);
        tell(x, 0, 1, 1, 8);
        is("cools, none", x.cools(0), 0);
        is("cool, none", x.cool(0), -1);
        x.does(1, 0);
        is("cools, deeds as done", x.cool(0), 4);
    }

    private static void treaties() {
        // None: 5, CART 1 alone passes. One deed: 10, both. Both: 15.
        QuarrelBridge x = Texts.told("bridge days 2 feels 5 feels 5 cools 0 odds 0;deed by 0 costs 2 gives 5 gives 5;"
                + "deed by 1 costs 3 gives 5 gives 5;cart on 0 wide 6 from 0 due 0 pays 10;cart on 1 wide 4 from 0 due 0 pays 10;");
        int[][] due = {{-1, -1, 0, 10}, {0, -1, 8, 10}, {-1, 1, 10, 7}, {0, 1, 8, 7}};
        for (int[] one : due) {
            is("has 0 " + one[0] + " " + one[1], x.has(0, one[0], one[1], 0), one[2]);
            is("has 1 " + one[0] + " " + one[1], x.has(1, one[0], one[1], 0), one[3]);
        }
        is("rests", x.rests(0), 1);
        is("rest", x.rest(0), 10);
        // On DAY 1 it is too late for all: none is best.
        is("rests on 1", x.rests(1), 1);
        is("rest on 1", x.rest(1), 0);
        x.does(0, 0);
        is("in place of what is done", x.has(0, -1, -1, 0), 0);
        is("less its choice alone", x.has(0, -1, -1, 1), 10);
        int[] no = {x.has(2, -1, -1, 0), x.has(-1, -1, -1, 0), x.has(0, 1, -1, 0), x.has(0, -1, 0, 0), x.has(0, 2, -1, 0),
            x.has(0, -2, -1, 0), x.has(0, -1, 2, 0), x.has(0, -1, -1, 2), x.has(0, -1, -1, -1), x.has(1, HIGH, LOW, 0)};
        for (int got : no) is("no such pair", got, -1000000);
        int[] none = {x.rests(2), x.rests(-1), x.rest(2), x.rest(-1)};
        for (int got : none) is("no such DAY", got, -2);
        // Nothing to gain, and deeds for nothing: all pairs rest.
        QuarrelBridge y = Texts.told("bridge days 1 feels 5 feels 5 cools 0 odds 0;deed by 0 costs 0 gives 5 gives 5;"
                + "deed by 1 costs 0 gives 5 gives 5;deed by 1 costs 1 gives 5 gives 5;");
        is("rests of all", y.rests(0), 4);
        is("rest, the least", y.rest(0), 0);
        // SIDE 0 (CART 0, 9 wide) wants 9 or more, SIDE 1 (CART 1, 5) what CART 0 leaves: one runs from the other.
        QuarrelBridge z = Texts.told("bridge days 1 feels 8 feels 8 cools 0 odds 0;deed by 0 costs 1 gives 1 gives 1;"
                + "deed by 1 costs 1 takes 1 takes 1;cart on 0 wide 9 from 0 due 0 pays 9;cart on 1 wide 8 from 0 due 0 pays 9;");
        // none none: 8: 0, 9. 0 none: 9: 8, 0. 0 1: 8: -1, 8. none 1: 7: 0, -1.
        is("no rest", z.rests(0), 0);
        is("rest of none", z.rest(0), -1);
    }

    private static void treatyOrder() {
        // SIDE 0's first: 50 and 30 are 60, less 30 are 30; the other way 50.
        QuarrelBridge x = Texts.told("bridge days 1 feels 50 feels 50 cools 0 odds 0;deed by 1 costs 0 takes 30 takes 30;"
                + "deed by 0 costs 0 gives 30 gives 30;cart on 0 wide 30 from 0 due 0 pays 7;cart on 1 wide 1 from 0 due 0 pays 9;");
        is("SIDE 0's first", x.has(0, 1, 0, 0), 7);
        is("no room for one more", x.has(1, 1, 0, 0), 0);
    }

    private static void shares() {
        // WIDTH 5: 0 alone passes for nothing. Deed 0 (4): 8, 0 or 1 with 2; deed 1 (6): 12, all.
        QuarrelBridge x = Texts.told("bridge days 1 feels 5 feels 5 cools 0 odds 0;deed by 0 costs 4 gives 3 gives 3;"
                + "deed by 1 costs 6 gives 7 gives 7;cart on 0 wide 5 from 0 due 0 pays 1;cart on 0 wide 4 from 0 due 0 pays 1;"
                + "cart on 1 wide 3 from 0 due 0 pays 1;");
        int[] cheap = {0, 0, 6, 6, 4, 4, 6, 6};
        for (int set = 0; set < 8; set++) is("cheap " + set, x.cheap(set), cheap[set]);
        tell(x, 0, 2, 0, 3, 3);
        is("fair", x.fair(0), 1);
        is("leave of a fair one", x.leave(0), -1);
        tell(x, 0, 2, 0, 2, 4);
        is("fair at the edge", x.fair(0), 1);
        tell(x, 0, 2, 0, 1, 5);
        is("one pays too much", x.fair(0), 0);
        is("it leaves", x.leave(0), 4);
        tell(x, 0, 2, 0, 3, 2);
        is("too little", x.fair(0), 0);
        is("none leaves", x.leave(0), -1);
        tell(x, 0, 2, 1, 3, 4);
        is("too much", x.fair(0), 0);
        is("the least that leaves", x.leave(0), 1);
        long[][] wrong = {{}, {0, 6}, {0, 3, 3, 0}, {-1, 3, 4}, {1000, 0, 0}, {0, 0, 4294967296L}};
        for (long[] row : wrong) {
            tell(x, 1, 3, row);
            is("wrong shares", x.fair(1), -2);
            is("wrong shares", x.leave(1), -2);
        }
        // CART 1 never comes: sets with it can not be, and pay anything; all pays just nothing that can be.
        QuarrelBridge y = Texts.told("bridge days 1 feels 5 feels 5 cools 0 odds 0;cart on 0 wide 5 from 0 due 0 pays 1;"
                + "cart on 1 wide 3 from 1 due 1 pays 1;");
        tell(y, 0, 1, 0, 999);
        is("leave: one that can not be", y.leave(0), -1);
        is("fair: all can not be", y.fair(0), 0);
        tell(y, 0, 1, 1, 0);
        is("leave: one that can be", y.leave(0), 1);
        // Each alone for 4, both for 6.
        QuarrelBridge z = Texts.told("bridge days 1 feels 5 feels 5 cools 0 odds 0;deed by 0 costs 4 gives 1 gives 1;"
                + "deed by 1 costs 6 gives 7 gives 7;cart on 0 wide 6 from 0 due 0 pays 1;cart on 0 wide 6 from 0 due 0 pays 1;");
        tell(z, 0, 1, 2, 4);
        is("fair to both", z.fair(0), 1);
        tell(z, 0, 1, 3, 4);
        is("all leave together", z.leave(0), 3);
        is("which is not fair", z.fair(0), 0);
    }

    private static void chances() {
        QuarrelBridge x = Texts.told("bridge days 2 feels 10 feels 12 cools 1 odds 3;deed by 0 costs 1 gives 30 gives 30;"
                + "cart on 0 wide 9 from 1 due 1 pays 3;");
        // DAY 0: 10, or 5 by a temper. DAY 1: 9; 4 by one; 0 by both.
        long[][] due = {{0, 6, 7, 10}, {0, 10, 7, 10}, {0, 11, 0, 1}, {0, 5, 1, 1}, {1, 9, 49, 100}, {1, 4, 91, 100},
            {1, 5, 49, 100}, {1, 0, 1, 1}, {1, 10, 0, 1}, {1, 60, 0, 1}};
        for (long[] one : due) {
            is("chance above " + one[0] + " " + one[1], x.chance((int) one[0], (int) one[1], 0), one[2]);
            is("chance below " + one[0] + " " + one[1], x.chance((int) one[0], (int) one[1], 1), one[3]);
        }
        long[] none = {x.chance(2, 0, 0), x.chance(-1, 0, 0), x.chance(0, -1, 0), x.chance(0, 61, 0), x.chance(0, 0, 2),
            x.chance(0, 0, -1)};
        for (long got : none) is("no such chance", got, -2);
        is("when 9", x.when(9), 0);
        is("when 0", x.when(0), 0);
        is("when 11", x.when(11), -1);
        is("when 61", x.when(61), -2);
        is("when -1", x.when(-1), -2);
        x.does(1, 0); // DAY 1: 39, 34, 34, 29
        is("when 11 by a deed", x.when(11), 1);
        is("chance by a deed", x.chance(1, 30, 0), 91);
        is("when 5: both are sure", x.when(5), 0);
        QuarrelBridge y = Texts.told("bridge days 6 feels 60 feels 60 cools 0 odds 5;");
        is("lowest terms above", y.chance(5, 35, 0), 63);
        is("lowest terms below", y.chance(5, 35, 1), 64);
        QuarrelBridge z = Texts.told("bridge days 2 feels 10 feels 10 cools 0 odds 10;");
        is("sure temper", z.chance(1, 0, 0), 1);
        is("sure temper, WIDTH 0", z.chance(1, 1, 0), 0);
        is("sure temper, when", z.when(5), 0);
    }

    private static void draws() {
        // Draws of seed 1: 8 8 3 5 1 7; of 0: 0 8 8 7 8 7; of 2,000,000,000: 4 3 1 7 6 2.
        QuarrelBridge x = Texts.told("bridge days 6 feels 30 feels 40 cools 0 odds 4;cart on 0 wide 30 from 2 due 3 pays 1;"
                + "cart on 1 wide 25 from 3 due 3 pays 1;cart on 0 wide 30 from 1 due 9 pays 1;");
        is("drawn 1 0", x.drawn(1, 0), 20);
        is("drawn 1 1", x.drawn(1, 1), 20);
        is("drawn 1 2", x.drawn(1, 2), 6);
        is("drawn 0 0", x.drawn(0, 0), 1);
        is("drawn 0 1", x.drawn(0, 1), 25);
        is("drawn 0 2", x.drawn(0, 2), 2);
        is("drawn 2,000,000,000 0", x.drawn(2000000000, 0), 38);
        int[] none = {x.drawn(-1, 0), x.drawn(2000000001, 0), x.drawn(0, 3), x.drawn(0, -1), x.luck(-1, 1, 0),
            x.luck(2000000001, 1, 0), x.luck(0, 0, 0), x.luck(0, 21, 0), x.luck(0, 1, 3), x.luck(0, 1, -1)};
        for (int got : none) is("no such draw", got, -2);
        is("luck 0 2, CART 1", x.luck(0, 2, 1), 2);
        is("luck 0 2, CART 2", x.luck(0, 2, 2), 1);
        is("luck 0 2, CART 0", x.luck(0, 2, 0), 0);
        is("luck at the last seed is counted", x.luck(2000000000, 20, 1) >= 0 ? 1 : 0, 1);
        QuarrelBridge y = Texts.told("bridge days 1 feels 5 feels 5 cools 0 odds 0;cart on 0 wide 5 from 0 due 0 pays 1;");
        is("never a temper", y.luck(0, 20, 0), 20);
        QuarrelBridge z = Texts.told("bridge days 2 feels 9 feels 9 cools 0 odds 10;deed by 0 costs 0 gives 5 gives 5;"
                + "cart on 0 wide 5 from 0 due 0 pays 1;");
        is("always a temper", z.drawn(7, 0), 3);
        is("behind its DEED", z.luck(7, 20, 0), 0);
        z.does(0, 0);
        is("behind its DEED, as done", z.luck(7, 20, 0), 20);
        is("WIDTH on the last DAY", z.drawn(7, 1), 4);
    }

    private static void acts() {
        QuarrelBridge x = Texts.told(PLAIN);
        is("undo of none", x.undo(), -5);
        is("anew of none", x.anew(), 0);
        is("does 0 1", x.does(0, 1), -1);
        is("does 0 0", x.does(0, 0), 1);
        is("does 2 NONE", x.does(2, -1), -1);
        is("acts", x.count(5), 3);
        is("done 0", x.done(0), 0);
        is("done 1", x.done(1), -1);
        is("undo", x.undo(), 2);
        is("undo 2", x.undo(), 1);
        is("done 0 as it was", x.done(0), 1);
        is("does 0 NONE", x.does(0, -1), 1);
        is("done 0 none", x.done(0), -1);
        int[] none = {x.does(3, 0), x.does(-1, 0), x.does(0, 2), x.does(0, -2), x.done(3), x.done(-1)};
        for (int got : none) is("none such", got, -2);
        is("acts, refused aside", x.count(5), 2);
        for (int i = 2; i < 40; i++) {
            is("does, act " + i, x.does(1, i % 2), i == 2 ? -1 : 1 - i % 2);
        }
        is("act 41", x.does(1, 0), -5);
        is("act 41, none such", x.does(3, 0), -2);
        is("acts, 40", x.count(5), 40);
        is("undo of 40", x.undo(), 39);
        is("act 40 again", x.does(2, 1), -1);
        is("anew", x.anew(), 40);
        is("acts behind anew", x.count(5), 0);
        for (int d = 0; d < 3; d++) is("done behind anew", x.done(d), -1);
        is("undo behind anew", x.undo(), -5);
    }

    private static void rates() {
        QuarrelBridge x = Texts.told(PLAIN);
        is("rate", x.rate(0, 999), 10);
        is("rate again", x.rate(0, 0), 999);
        is("cart then", x.cart(0, 4), 0);
        int[] none = {x.rate(4, 0), x.rate(-1, 0), x.rate(0, -1), x.rate(0, 1000)};
        for (int got : none) is("none such", got, -2);
        x.does(0, -1);
        is("rate behind an act", x.rate(0, 5), -5);
        is("rate of none such behind an act", x.rate(4, 5), -2);
        is("cart as it was", x.cart(0, 4), 0);
        x.undo();
        is("rate behind undo", x.rate(0, 5), 0);
    }

    private static void images() {
        QuarrelBridge x = Texts.told(PLAIN);
        int[] none = {x.image(-1), x.image(3), x.back(-1), x.back(3)};
        for (int got : none) is("no such IMAGE", got, -2);
        is("back to nothing", x.back(0), -6);
        x.rate(0, 50);
        x.does(0, 0);
        x.does(0, 1);
        is("image", x.image(1), 0);
        is("best in it", x.best(), 58);
        x.row(2, 0, 3);
        x.anew();
        x.rate(0, 1);
        Texts.feed(x, "bridge days 1 feels 5 feels 5 cools 0 odds 0;");
        x.bridge();
        is("best of another", x.best(), 0);
        x.feed(0, 0, 0, 0, 0);
        is("back", x.back(1), 0);
        is("best again", x.best(), 58);
        is("rate is back", x.cart(0, 4), 50);
        is("acts are back", x.count(5), 2);
        is("undo behind back", x.undo(), 1);
        is("done behind undo", x.done(0), 0);
        is("the TAPE stays", x.count(7), 20);
        is("SLOTS stay", x.count(8), 1);
        is("back twice", x.back(1), 0);
        is("the IMAGE was not changed", x.count(5), 2);
        is("others have nothing", x.back(2), -6);
        x.end(0);
        x.bridge();
        is("image of no BRIDGE", x.image(2), 0);
        is("back to one", x.back(1), 0);
        is("lines", x.count(6), 7);
        is("back to none", x.back(2), 0);
        is("no lines", x.count(6), 0);
    }

    private static void rows() {
        QuarrelBridge x = new QuarrelBridge();
        int[] none = {x.row(4, 0, 1), x.row(-1, 0, 1), x.row(0, 4, 1), x.row(0, -1, 1), x.row(0, 0, 61), x.row(4, 0, -1),
            x.row(0, 4, -1), x.row(0, 0, HIGH)};
        for (int got : none) is("no such row", got, -2);
        is("row below 0", x.row(0, 0, -1), -3);
        is("row least", x.row(0, 0, LOW), -3);
        is("no rows yet", x.count(8), 0);
        is("row of 60", x.row(0, 3, 60), 0);
        is("row of 0", x.row(3, 0, 0), 0);
        is("two rows", x.count(8), 2);
        is("number 59", x.write(0, 59, 1), 0);
        is("row below 0 again", x.row(0, 1, -1), -3);
        is("the SLOT stays", x.write(0, 59, 1), 0);
        is("row too long", x.row(0, 1, 61), -2);
        is("the SLOT stays still", x.write(0, 59, 1), 0);
        is("in place of another", x.row(0, 1, 2), 0);
        is("its length", x.write(0, 2, 0), -7);
        is("still two rows", x.count(8), 2);
    }

    private static void writes() {
        QuarrelBridge x = Texts.told("bridge days 1 feels 0 feels 0 cools 0 odds 0;cart on 0 wide 1 from 9 due 0 pays 1;");
        is("no such SLOT", x.write(4, 0, 0), -2);
        is("no such SLOT", x.write(-1, 0, 0), -2);
        is("nothing", x.write(0, 0, 0), -6);
        x.row(0, 0, 1);
        is("no such number", x.write(0, 1, 0), -7);
        is("no such number", x.write(0, -1, 0), -7);
        is("no such number", x.write(0, LOW, 0), -7);
        is("no such number", x.write(0, HIGH, 0), -7);
        // fair answers 0 for a share that is 0 .. 999, -2 for another: so a number shows.
        long[][] due = {{0, 127, 0}, {0, 128, -2}, {0, 255, -2}, {0, 256, 0}, {0, -1, -2}, {0, -256, 0}, {1, 128, 0},
            {1, 999, 0}, {1, 1000, -2}, {1, 32768, -2}, {1, 65536 + 7, 0}, {2, 65536, -2}, {2, 4294967296L, 0},
            {2, 2147483648L, -2}, {3, 4294967296L, -2}, {3, 999, 0}, {3, Long.MIN_VALUE, -2}};
        for (long[] one : due) {
            x.row(0, (int) one[0], 1);
            is("write", x.write(0, 0, one[1]), 0);
            is("cut to WIDTH " + one[0] + ": " + one[1], x.fair(0), one[2]);
        }
        x.row(0, 2, 1);
        is("all 0 in place of another", x.leave(0), -1);
    }

    /** What a SLOT of five numbers 0 .. 9 holds, read off by leave over single CARTS that cost nothing. */
    private static void sees(QuarrelBridge x, String call, int slot, int... row) {
        // CHEAP of every set is 0, so the least set that leaves is that of the first number above 0:
        // numbers ahead are made 0 one by one, in a copy.
        is(call + ", length", x.paste(slot, 0, 3, 0, 5), 0);
        for (int i = 0; i < 5; i++) {
            int first = -1;
            for (int k = 4; k >= i; k--) {
                if (row[k] > 0) first = 1 << k;
            }
            is(call + ", from " + i, x.leave(3), first);
            x.write(3, i, 0);
        }
        is(call + ", copy again", x.paste(slot, 0, 3, 0, 5), 0);
    }

    private static void pastes() {
        StringBuilder text = new StringBuilder("bridge days 1 feels 60 feels 60 cools 0 odds 0;");
        for (int i = 0; i < 5; i++) text.append("cart on 0 wide 1 from 0 due 0 pays 1;");
        QuarrelBridge x = Texts.told(text.toString());
        x.row(3, 1, 5);
        tell(x, 0, 1, 0, 2, 0, 4, 5);
        tell(x, 1, 1, 0, 0, 0, 0, 0);
        sees(x, "as told", 0, 0, 2, 0, 4, 5);
        is("paste", x.paste(0, 1, 1, 0, 3), 0);
        sees(x, "behind paste", 1, 2, 0, 4, 0, 0);
        is("paste on itself, up", x.paste(0, 0, 0, 1, 4), 0);
        sees(x, "up", 0, 0, 0, 2, 0, 4);
        tell(x, 0, 1, 0, 2, 0, 4, 5);
        is("paste on itself, down", x.paste(0, 1, 0, 0, 4), 0);
        sees(x, "down", 0, 2, 0, 4, 5, 5);
        is("paste nothing", x.paste(0, 5, 1, 5, 0), 0);
        int[] beyond = {x.paste(0, 0, 1, 0, 6), x.paste(0, 1, 1, 0, 5), x.paste(0, 0, 1, 1, 5), x.paste(0, -1, 1, 0, 1),
            x.paste(0, 0, 1, -1, 1), x.paste(0, 0, 1, 0, -1), x.paste(0, HIGH, 1, 0, HIGH), x.paste(0, 1, 1, 1, HIGH),
            x.paste(0, 0, 1, 0, LOW), x.paste(0, LOW, 1, LOW, 0)};
        for (int got : beyond) is("beyond", got, -7);
        sees(x, "nothing happens", 1, 2, 0, 4, 0, 0);
        x.row(2, 2, 5);
        is("not of one WIDTH", x.paste(0, 0, 2, 0, 1), -8);
        is("not of one WIDTH, beyond", x.paste(0, 9, 2, 0, 1), -8);
        int[] none = {x.paste(4, 0, 0, 0, 1), x.paste(0, 0, 4, 0, 1), x.paste(-1, 0, 0, 0, 1), x.paste(0, 0, -1, 0, 1)};
        for (int got : none) is("no such SLOT", got, -2);
        QuarrelBridge y = new QuarrelBridge();
        is("nothing in both", y.paste(0, 0, 1, 0, 1), -6);
        y.row(0, 0, 1);
        is("nothing in the other", y.paste(0, 0, 1, 0, 1), -6);
        is("nothing in the first", y.paste(1, 0, 0, 0, -1), -6);
        is("nothing, and no such SLOT", y.paste(1, 0, 4, 0, 1), -2);
    }
}
