import java.util.function.IntToLongFunction;

/** What reads and fills SLOTS: Term V and promises 48 to 54, 58, 59 and 72 to 74. */
final class EdgeSlots {
    /** WIDTH on DAY 1 is 9 less cools: cool() tells a number 0 .. 9 of a row by 9 less it. */
    private static final String READER = Edges.bridge(2, 9, 60, 0, 0);
    /** CHEAP of the one CART is 99: fair() tells whether a row's one number is just that. */
    private static final String DEAR = Edges.bridge(1, 0, 0, 0, 0) + Edges.deed(0, 99, 5, 5) + Edges.cart(0, 5, 0, 0, 1);

    private EdgeSlots() { }

    static void run() {
        terms();
        fits();
        wrongWidths();
        slights();
        slight();
        ask();
        leaves();
        cools();
        cool();
        fair();
        wrongShares();
        leave();
        rows();
        rowsRefused();
        writes();
        writesRefused();
        pastes();
        pastesRefused();
    }

    private static void terms() {
        Edges.of(Edges.TERMS, "SLOTS 0 .. 3 have rows of numbers of 1, 2, 4 or 8 bytes (a WIDTH 0 .. 3 there), at most 60, or nothing.");
        QuarrelBridge x = Edges.on(DEAR);
        Edges.row("nothing at first", x::fair, -6, -6, -6, -6);
        for (int slot = 0; slot < 4; slot++) {
            Edges.is("a row", x.row(slot, slot, 60), 0);
            Edges.is("its last number", x.write(slot, 59, 1), 0);
            Edges.is("no other", x.write(slot, 60, 1), -7);
            Edges.is("rows", x.count(8), slot + 1);
        }
        Edges.of(Edges.TERMS, "-2 (-1,000 and the like) is asked ahead of -5, -6.");
        QuarrelBridge no = new QuarrelBridge();
        Edges.all("no BRIDGE, nothing", -2, no.fits(0), no.slights(0), no.slight(0), no.ask(0), no.leaves(0), no.cools(0),
                no.cool(0), no.fair(0), no.leave(0));
        Edges.all("no such SLOT", -2, no.write(4, 0, 0), no.paste(0, 0, 4, 0, 0), no.paste(4, 0, 0, 0, 0));
        Edges.all("no such IMAGE", -2, no.back(3), no.back(-1));
        Edges.all("no BRIDGE, no acts", -2, no.undo(), no.anew());
        QuarrelBridge y = Edges.on(DEAR);
        y.does(0, 0);
        Edges.all("none such, acts", -2, y.rate(1, 0), y.rate(0, 1000));
        for (int act = 1; act < 40; act++) y.does(0, 0);
        Edges.all("none such, 40 acts", -2, y.does(1, 0), y.does(0, 1));
        Edges.is("such, 40 acts", y.does(0, 0), -5);
        Edges.of(Edges.TERMS, "A SLOT's row, two numbers each: a DAY, a WIDTH (0 .. 60).");
        QuarrelBridge z = Edges.on(Edges.bridge(6, 60, 60, 0, 0), Edges.deed(0, 0, 0, 0));
        Edges.tell(z, 0, 0, 5, 60);
        Edges.is("DAY 5 is 60", z.fits(0), 6);
        Edges.tell(z, 0, 0, 5, 0);
        Edges.is("DAY 5 is not 0", z.fits(0), 0);
        Edges.tell(z, 0, 0, 5, 61);
        Edges.is("61", z.fits(0), -2);
        Edges.tell(z, 0, 0, 6, 60);
        Edges.is("DAY 6", z.fits(0), -2);
        Edges.of(Edges.TERMS, "SLIGHT: that DEED on that DAY in place of what is done then (also the same one).");
        QuarrelBridge w = Edges.on(Edges.bridge(2, 9, 9, 0, 0), Edges.deed(0, 0, 1, 1), Edges.deed(0, 0, 4, 4));
        w.does(0, 0);
        w.does(1, 1);
        // As done: 10 14. In place of one of both: 13 17, 10 11.
        Edges.tell(w, 0, 0, 0, 10, 1, 14);
        Edges.is("the same one, on each DAY", w.fits(0), 2);
        Edges.tell(w, 0, 0, 0, 13, 1, 17);
        Edges.is("in place, on DAY 0", w.slight(0), 10);
        Edges.tell(w, 0, 0, 0, 10, 1, 11);
        Edges.is("in place, on DAY 1", w.slight(0), 1);
    }

    private static void fits() {
        Edges.of(48, "SLIGHT (V): pairs of a DEED and a DAY by which WIDTHS are as a SLOT's row tells: how many.");
        QuarrelBridge x = Edges.on(EdgeDays.PLAIN);
        // DEED 0: 12 10 8, 7 10 8, 7 5 8. DEED 1: 0 0 0, 7 0 0, 7 5 0.
        Edges.tell(x, 0, 0);
        Edges.is("nothing is told", x.fits(0), 6);
        Edges.tell(x, 0, 0, 0, 7);
        Edges.is("DAY 0", x.fits(0), 4);
        Edges.tell(x, 0, 1, 0, 7, 2, 8);
        Edges.is("DAYS 0 and 2", x.fits(0), 2);
        Edges.tell(x, 0, 2, 2, 8, 0, 7, 1, 5);
        Edges.is("all, in any order", x.fits(0), 1);
        Edges.tell(x, 0, 3, 0, 7, 0, 7);
        Edges.is("twice", x.fits(0), 4);
        Edges.tell(x, 0, 3, 0, 7, 0, 12);
        Edges.is("unlike itself", x.fits(0), 0);
        long[] full = new long[60];
        for (int i = 0; i < 60; i += 2) full[i + 1] = 7;
        Edges.tell(x, 0, 0, full);
        Edges.is("60 numbers", x.fits(0), 4);
        x.write(0, 59, 12);
        Edges.is("the last of them", x.fits(0), 0);
        QuarrelBridge most = Edges.on(Edges.bridge(6, 9, 9, 0, 0), Edges.deed(0, 0, 0, 0).repeat(4));
        Edges.tell(most, 3, 0);
        Edges.is("24", most.fits(3), 24);
        QuarrelBridge bare = Edges.on(EdgeDays.BARE);
        Edges.tell(bare, 1, 0);
        Edges.is("without DEEDS", bare.fits(1), 0);
    }

    private static IntToLongFunction[] readers(QuarrelBridge x) {
        return new IntToLongFunction[] {x::fits, x::slights, x::slight, x::ask, x::leaves, x::cools, x::cool};
    }

    /** Promises 48 to 54, all of which say the same of a SLOT that can not be read. */
    private static void wrongWidths() {
        String[] minusTwo = {"-2: there is no such SLOT, no BRIDGE, a number is none such (asked last), not two each",
            "-2, -6 likewise.", "-2, -6 likewise.", "-2, -6 likewise.", "-2, -6 likewise.", "-2, -6 likewise.", "-2, -6 likewise."};
        for (int which = 0; which < 7; which++) {
            QuarrelBridge x = Edges.on(EdgeDays.PLAIN);
            QuarrelBridge no = new QuarrelBridge();
            IntToLongFunction call = readers(x)[which];
            Edges.of(48 + which, minusTwo[which]);
            no.row(0, 0, 0);
            Edges.none("no such SLOT", call, -2, 4);
            Edges.row("no BRIDGE", readers(no)[which], -2, -2, -2, -2);
            Edges.none("no BRIDGE, no such SLOT", readers(no)[which], -2, 4);
            long[][] wrong = {{0}, {9}, {0, 7, 1}, {0, 7, 0, 7, 0}, {3, 0}, {-1, 0}, {0, 61}, {0, -1}, {0, 7, 3, 7}, {0, 7, 0, 61},
                {4294967296L, 7}, {0, 4294967303L}, {Long.MIN_VALUE, 7}, {0, Long.MAX_VALUE}, {5, 99, 0}};
            for (long[] row : wrong) {
                Edges.tell(x, 1, 3, row);
                Edges.is("a wrong row of " + row.length + " from " + row[0], call.applyAsLong(1), -2);
            }
            Edges.tell(x, 1, 0, new long[59]);
            Edges.is("59 numbers", call.applyAsLong(1), -2);
            Edges.of(48 + which, which == 0 ? "-6: it has nothing." : "-2, -6 likewise.");
            Edges.all("nothing", -6, call.applyAsLong(0), call.applyAsLong(2), call.applyAsLong(3));
        }
    }

    private static void slights() {
        Edges.of(49, "DEEDS of these, as bits.");
        QuarrelBridge x = Edges.on(Edges.bridge(2, 9, 9, 0, 0), Edges.deed(0, 0, 1, 1), Edges.deed(0, 0, 0, 0),
                Edges.deed(0, 0, -1, -1), Edges.deed(0, 0, 1, 1));
        Edges.tell(x, 0, 0);
        Edges.is("all", x.slights(0), 15);
        Edges.tell(x, 0, 0, 0, 10);
        Edges.is("0 and 3", x.slights(0), 9);
        Edges.tell(x, 0, 0, 0, 8);
        Edges.is("2", x.slights(0), 4);
        Edges.tell(x, 0, 0, 0, 7);
        Edges.is("none", x.slights(0), 0);
    }

    private static void slight() {
        Edges.of(50, "The first such pair (DEED, then DAY): 10 times the DEED and the DAY.");
        QuarrelBridge x = Edges.on(Edges.bridge(6, 9, 9, 0, 0), Edges.deed(0, 0, 0, 0), Edges.deed(0, 0, 1, 1),
                Edges.deed(0, 0, 1, 1), Edges.deed(0, 0, 2, 2));
        Edges.tell(x, 0, 0);
        Edges.is("0 and 0", x.slight(0), 0);
        Edges.tell(x, 0, 0, 5, 10);
        Edges.is("DEED 1, the first DAY", x.slight(0), 10);
        Edges.tell(x, 0, 0, 4, 9, 5, 10);
        Edges.is("DEED 1, the last DAY", x.slight(0), 15);
        Edges.tell(x, 0, 0, 4, 9, 5, 11);
        Edges.is("3 and 5", x.slight(0), 35);
        Edges.of(50, "NONE: none");
        Edges.tell(x, 0, 0, 5, 12);
        Edges.is("none", x.slight(0), -1);
        QuarrelBridge bare = Edges.on(EdgeDays.BARE);
        Edges.tell(bare, 1, 0);
        Edges.is("without DEEDS", bare.slight(1), -1);
    }

    private static void ask() {
        Edges.of(51, "ASK: the DAY of which to know the WIDTH leaves fewest of these at worst, if fewer than now, the first of several.");
        QuarrelBridge x = Edges.on(EdgeDays.PLAIN);
        Edges.tell(x, 0, 0);
        // At worst 4, 2, 3.
        Edges.is("2 of 4, 2, 3", x.ask(0), 1);
        QuarrelBridge y = Edges.on(Edges.bridge(2, 10, 10, 0, 0), Edges.deed(0, 0, 1, 1), Edges.deed(0, 0, 2, 2));
        Edges.tell(y, 0, 0);
        // 11 11, 10 11, 12 12, 10 12: at worst 2, 2.
        Edges.is("the first of several", y.ask(0), 0);
        Edges.tell(y, 0, 0, 0, 10);
        Edges.is("DAY 1 tells both apart", y.ask(0), 1);
        Edges.of(51, "NONE: none");
        Edges.tell(y, 0, 0, 0, 11);
        Edges.is("of one", y.ask(0), -1);
        Edges.tell(y, 0, 0, 0, 9);
        Edges.is("of none", y.ask(0), -1);
        QuarrelBridge z = Edges.on(Edges.bridge(6, 9, 9, 0, 0), Edges.deed(0, 0, 0, 0).repeat(4));
        Edges.tell(z, 0, 0);
        Edges.is("all alike", z.ask(0), -1);
    }

    private static void leaves() {
        Edges.of(52, "How many it leaves at worst (as now without).");
        QuarrelBridge x = Edges.on(EdgeDays.PLAIN);
        Edges.tell(x, 0, 0);
        Edges.is("2 of 4, 2, 3", x.leaves(0), 2);
        Edges.tell(x, 0, 0, 1, 10);
        Edges.is("1 of 2", x.leaves(0), 1);
        Edges.tell(x, 0, 0, 0, 12);
        Edges.is("of one, as now", x.leaves(0), 1);
        Edges.tell(x, 0, 0, 0, 60);
        Edges.is("of none, as now", x.leaves(0), 0);
        QuarrelBridge z = Edges.on(Edges.bridge(6, 9, 9, 0, 0), Edges.deed(0, 0, 0, 0).repeat(4));
        Edges.tell(z, 0, 0);
        Edges.is("of 24 alike, as now", z.leaves(0), 24);
    }

    private static void cools() {
        Edges.of(53, "COOL: of 0 .. 9 how many, as cools, make WIDTHS as the row tells (deeds done as now).");
        QuarrelBridge x = Edges.on(Edges.bridge(3, 9, 60, 4, 0), Edges.deed(0, 0, 1, 0));
        Edges.tell(x, 0, 0);
        Edges.is("nothing is told", x.cools(0), 10);
        Edges.tell(x, 0, 0, 0, 9);
        Edges.is("DAY 0", x.cools(0), 10);
        Edges.tell(x, 0, 0, 0, 8);
        Edges.is("DAY 0, not so", x.cools(0), 0);
        Edges.tell(x, 0, 0, 1, 0);
        Edges.is("9 alone", x.cools(0), 1);
        Edges.tell(x, 0, 0, 2, 0);
        Edges.is("5 to 9", x.cools(0), 5);
        x.does(2, 0);
        Edges.is("deeds as done", x.cools(0), 0);
        Edges.tell(x, 0, 0, 2, 1);
        Edges.is("5 to 9, by a DEED", x.cools(0), 5);
    }

    private static void cool() {
        Edges.of(54, "The least such.");
        QuarrelBridge x = Edges.on(Edges.bridge(3, 9, 60, 4, 0), Edges.deed(0, 0, 1, 0));
        for (int cools = 0; cools <= 9; cools++) {
            Edges.tell(x, 0, 0, 1, 9 - cools);
            Edges.is("of one", x.cool(0), cools);
        }
        Edges.tell(x, 0, 0, 2, 0);
        Edges.is("of 5 to 9", x.cool(0), 5);
        Edges.tell(x, 0, 0);
        Edges.is("of all", x.cool(0), 0);
        x.does(1, 0);
        Edges.tell(x, 0, 0, 1, 1);
        Edges.is("deeds as done", x.cool(0), 9);
        Edges.of(54, "NONE: none");
        Edges.tell(x, 0, 0, 1, 0);
        Edges.is("10 would be", x.cool(0), -1);
        Edges.tell(x, 0, 0, 1, 11);
        Edges.is("-1 would be", x.cool(0), -1);
        Edges.is("cools stays as told", x.count(1), 4);
    }

    private static void fair() {
        Edges.of(58, "SHARES: 1 if a SLOT's row (CART by CART what it pays, 0 .. 999) pays just what CHEAP of all CARTS tells,"
                + " and none of a set of them pays more than CHEAP of that set (one that can not be: any), else 0.");
        QuarrelBridge x = Edges.on(DEAR);
        int[][] one = {{98, 0}, {99, 1}, {100, 0}, {0, 0}, {999, 0}};
        for (int[] due : one) {
            Edges.tell(x, 0, 1, due[0]);
            Edges.is("share " + due[0], x.fair(0), due[1]);
        }
        // 5 wide: CART 0 for nothing; 8 (4): CART 2 too; 12 (6): all.
        QuarrelBridge y = Edges.on(Edges.bridge(1, 5, 5, 0, 0), Edges.deed(0, 4, 3, 3), Edges.deed(1, 6, 7, 7),
                Edges.cart(0, 5, 0, 0, 1), Edges.cart(0, 4, 0, 0, 1), Edges.cart(1, 3, 0, 0, 1));
        int[][] three = {{0, 2, 4, 1}, {0, 6, 0, 1}, {0, 1, 5, 0}, {1, 2, 3, 0}, {0, 2, 3, 0}, {0, 3, 4, 0}, {0, 0, 6, 0}};
        for (int[] due : three) {
            Edges.tell(y, 0, 1, due[0], due[1], due[2]);
            Edges.is("shares " + due[0] + " " + due[1] + " " + due[2], y.fair(0), due[3]);
        }
        QuarrelBridge bare = Edges.on(EdgeDays.BARE);
        Edges.tell(bare, 0, 0);
        Edges.is("without CARTS", bare.fair(0), 1);
        QuarrelBridge never = Edges.on(Edges.bridge(1, 5, 5, 0, 0), Edges.cart(0, 5, 1, 9, 1));
        Edges.tell(never, 0, 0, 0);
        Edges.is("all can not be", never.fair(0), 0);
        QuarrelBridge six = Edges.on(EdgeDays.MOST);
        Edges.tell(six, 0, 1, 0, 0, 0, 0, 0, 0);
        Edges.is("six for nothing", six.fair(0), 1);
        Edges.tell(six, 0, 1, 0, 0, 0, 0, 0, 1);
        Edges.is("one pays", six.fair(0), 0);
        // CART 1 passes by DEED 0 alone, when it is too narrow for CART 0; both never.
        QuarrelBridge apart = Edges.on(Edges.bridge(1, 6, 6, 0, 0), Edges.deed(0, 3, -1, -1), Edges.cart(0, 6, 0, 0, 1),
                Edges.cart(0, 5, 0, 0, 1));
        Edges.tell(apart, 0, 0, 0, 3);
        Edges.is("both can not be", apart.fair(0), 0);
    }

    private static void wrongShares() {
        String[] minusTwo = {"-2: there is no such SLOT, no BRIDGE, a number is none such (asked last), not as many as CARTS",
            "-2, -6 likewise."};
        for (int which = 0; which < 2; which++) {
            QuarrelBridge x = Edges.on(DEAR, Edges.cart(0, 5, 0, 0, 1));
            QuarrelBridge no = new QuarrelBridge();
            no.row(0, 0, 0);
            IntToLongFunction call = which == 0 ? x::fair : x::leave;
            IntToLongFunction without = which == 0 ? no::fair : no::leave;
            Edges.of(58 + which, minusTwo[which]);
            Edges.none("no such SLOT", call, -2, 4);
            Edges.row("no BRIDGE", without, -2, -2, -2, -2);
            long[][] wrong = {{}, {0}, {0, 0, 0}, {-1, 0}, {0, -1}, {1000, 0}, {0, 1000}, {4294967296L, 0}, {0, Long.MIN_VALUE},
                {0, Long.MAX_VALUE}, {1000}, {0, 0, -1}};
            for (long[] row : wrong) {
                Edges.tell(x, 1, 3, row);
                Edges.is("wrong shares, " + row.length, call.applyAsLong(1), -2);
            }
            Edges.tell(x, 1, 0, new long[60]);
            Edges.is("60 shares", call.applyAsLong(1), -2);
            Edges.of(58 + which, which == 0 ? "-6: it has nothing." : "-2, -6 likewise.");
            Edges.all("nothing", -6, call.applyAsLong(0), call.applyAsLong(2), call.applyAsLong(3));
        }
    }

    private static void leave() {
        Edges.of(59, "The least set of CARTS (bits) that pays more than its CHEAP.");
        QuarrelBridge x = Edges.on(DEAR);
        Edges.tell(x, 0, 1, 100);
        Edges.is("one too much", x.leave(0), 1);
        QuarrelBridge six = Edges.on(EdgeDays.MOST);
        for (int cart = 0; cart < 6; cart++) {
            long[] shares = new long[6];
            for (int later = cart; later < 6; later++) shares[later] = 999;
            Edges.tell(six, 0, 1, shares);
            Edges.is("the least of these", six.leave(0), 1 << cart);
        }
        // CART 0 alone for 4; the others pass behind it, for 6.
        QuarrelBridge y = Edges.on(Edges.bridge(1, 5, 5, 0, 0), Edges.deed(0, 4, 1, 1), Edges.deed(1, 6, 13, 13),
                Edges.cart(0, 6, 0, 0, 1).repeat(3));
        Edges.row("cheap", y::cheap, 0, 4, 6, 6, 6, 6, 6, 6);
        Edges.tell(y, 0, 0, 1, 3, 3);
        Edges.is("all three alone", y.leave(0), 7);
        Edges.tell(y, 0, 0, 0, 3, 4);
        Edges.is("two of them", y.leave(0), 6);
        Edges.tell(y, 0, 0, 3, 4, 0);
        Edges.is("the first two", y.leave(0), 3);
        Edges.of(59, "NONE: none");
        Edges.tell(y, 0, 0, 0, 0, 6);
        Edges.is("just so much", y.leave(0), -1);
        Edges.tell(y, 0, 0, 0, 0, 0);
        Edges.is("nothing", y.leave(0), -1);
        Edges.tell(x, 0, 1, 99);
        Edges.is("just so much", x.leave(0), -1);
        QuarrelBridge never = Edges.on(Edges.bridge(1, 5, 5, 0, 0), Edges.cart(0, 5, 1, 9, 1));
        Edges.tell(never, 0, 1, 999);
        Edges.is("one that can not be: any", never.leave(0), -1);
        QuarrelBridge bare = Edges.on(EdgeDays.BARE);
        Edges.tell(bare, 0, 0);
        Edges.is("without CARTS", bare.leave(0), -1);
    }

    /** Number i of a SLOT's row, if 0 .. 9; SLOT 3 has a row of two numbers of that WIDTH. */
    private static void digits(QuarrelBridge x, String when, int slot, int from, int... want) {
        for (int i = 0; i < want.length; i++) {
            Edges.is(when + ", to read", x.paste(slot, from + i, 3, 1, 1), 0);
            Edges.is(when + ", number " + (from + i), 9 - x.cool(3), want[i]);
        }
    }

    private static QuarrelBridge reader(int width) {
        QuarrelBridge x = Edges.on(READER);
        Edges.tell(x, 3, width, 1, 0);
        return x;
    }

    private static void rows() {
        Edges.of(72, "A SLOT (0 .. 3) has a row of n numbers of a WIDTH, all 0 (in place of another one): 0.");
        for (int width = 0; width < 4; width++) {
            QuarrelBridge x = reader(width);
            Edges.tell(x, 1, width, 1, 2, 3, 4, 5, 6);
            Edges.is("as long", x.row(1, width, 6), 0);
            digits(x, "all 0", 1, 0, 0, 0, 0, 0, 0, 0);
            Edges.tell(x, 1, width, 1, 2, 3, 4, 5, 6);
            Edges.is("shorter", x.row(1, width, 2), 0);
            Edges.is("shorter, number 2", x.write(1, 2, 1), -7);
            Edges.is("longer", x.row(1, width, 60), 0);
            digits(x, "all 0, longer", 1, 0, 0, 0, 0, 0, 0, 0);
            digits(x, "all 0, the last", 1, 59, 0);
            Edges.is("of none", x.row(1, width, 0), 0);
            Edges.is("of none, number 0", x.write(1, 0, 1), -7);
            Edges.is("of none is a row", x.count(8), 2);
        }
        QuarrelBridge y = reader(0);
        Edges.is("of another WIDTH", y.row(1, 1, 2), 0);
        Edges.is("it is unlike", y.paste(1, 0, 3, 0, 1), -8);
        Edges.is("in place of it", y.row(1, 0, 2), 0);
        Edges.is("it is alike", y.paste(1, 0, 3, 0, 1), 0);
    }

    private static void rowsRefused() {
        QuarrelBridge x = reader(1);
        Edges.tell(x, 0, 1, 7, 8);
        Edges.of(72, "-2: there is no such SLOT or WIDTH (0 .. 3), or n is above 60");
        Edges.none("no such SLOT", slot -> x.row(slot, 0, 1), -2, 4);
        Edges.none("no such WIDTH", width -> x.row(0, width, 1), -2, 4);
        Edges.all("n above 60", -2, x.row(0, 1, 61), x.row(0, 1, 256), x.row(0, 1, 65536), x.row(0, 1, Edges.HIGH));
        Edges.all("ahead of -3", -2, x.row(4, 0, -1), x.row(-1, 0, -1), x.row(0, 4, -1), x.row(0, -1, Edges.LOW));
        digits(x, "the SLOT stays", 0, 0, 7, 8);
        Edges.is("two rows", x.count(8), 2);
        Edges.of(72, "-3, and the SLOT stays: n is below 0");
        Edges.all("below 0", -3, x.row(0, 1, -1), x.row(0, 0, -60), x.row(0, 2, Edges.LOW), x.row(0, 3, -256));
        digits(x, "the SLOT stays", 0, 0, 7, 8);
        Edges.is("its length stays", x.write(0, 2, 0), -7);
        Edges.is("nothing stays nothing", x.row(1, 0, -1), -3);
        Edges.is("nothing", x.write(1, 0, 0), -6);
        Edges.is("two rows", x.count(8), 2);
    }

    private static void writes() {
        Edges.of(73, "Number i of the SLOT's row is v, cut to its WIDTH: 0.");
        long[] lengths = {1L << 8, 1L << 16, 1L << 32};
        for (int width = 0; width < 3; width++) {
            long around = lengths[width];
            long[] same = {99, 99 + around, 99 - around, 99 + 7 * around, 99 - (1L << 40) * (around >> 8)};
            long[] others = {99 + around / 2, 99 - around / 2, 99 + around - 1};
            QuarrelBridge x = Edges.on(DEAR);
            x.row(2, width, 1);
            for (long v : same) {
                Edges.is("write " + v, x.write(2, 0, v), 0);
                Edges.is(v + " is 99 in WIDTH " + width, x.fair(2), 1);
            }
            for (long v : others) {
                Edges.is("write " + v, x.write(2, 0, v), 0);
                Edges.is(v + " is not 99 in WIDTH " + width, x.fair(2) == 1 ? 1 : 0, 0);
            }
            x.write(2, 0, around / 2 - 1);
            Edges.is("the greatest of WIDTH " + width, x.fair(2), width == 0 ? 0 : -2);
            x.write(2, 0, around / 2);
            Edges.is("around to the least of WIDTH " + width, x.fair(2), -2);
            x.write(2, 0, around - 1);
            Edges.is("-1 in WIDTH " + width, x.fair(2), -2);
            x.write(2, 0, around);
            Edges.is("0 in WIDTH " + width, x.leave(2), -1);
        }
        QuarrelBridge x = Edges.on(DEAR);
        x.row(2, 3, 1);
        long[][] eight = {{99, 1}, {98, 0}, {99 + (1L << 32), -2}, {99 + (1L << 8), 0}, {99 + (1L << 16), -2}, {Long.MIN_VALUE, -2},
            {99 + Long.MIN_VALUE, -2}, {Long.MAX_VALUE, -2}, {-1, -2}, {999, 0}, {1000, -2}};
        for (long[] one : eight) {
            Edges.is("write " + one[0], x.write(2, 0, one[0]), 0);
            Edges.is(one[0] + " in WIDTH 3", x.fair(2), one[1]);
        }
        QuarrelBridge y = reader(0);
        y.row(0, 0, 60);
        Edges.is("the first", y.write(0, 0, 3), 0);
        Edges.is("the last", y.write(0, 59, 4), 0);
        digits(y, "the first, no other", 0, 0, 3, 0, 0);
        digits(y, "the last, no other", 0, 57, 0, 0, 4);
        Edges.is("again", y.write(0, 59, 5), 0);
        digits(y, "again", 0, 59, 5);
    }

    private static void writesRefused() {
        QuarrelBridge x = reader(2);
        Edges.tell(x, 0, 2, 1, 2, 3);
        Edges.of(73, "-2: there is no such SLOT");
        Edges.none("no such SLOT", slot -> x.write(slot, 0, 9), -2, 4);
        Edges.is("ahead of -7", x.write(4, -1, 9), -2);
        Edges.of(73, "-6: it has nothing");
        Edges.all("nothing", -6, x.write(1, 0, 9), x.write(2, 0, 9), x.write(1, -1, 9), x.write(2, 60, 9));
        Edges.of(73, "-7: there is no such number.");
        Edges.none("no such number", i -> x.write(0, i, 9), -7, 3);
        Edges.all("behind 60", -7, x.write(0, 59, 9), x.write(0, 60, 9));
        digits(x, "nothing happens", 0, 0, 1, 2, 3);
        x.row(1, 0, 0);
        Edges.none("of none", i -> x.write(1, i, 9), -7, 0);
        Edges.is("of none", x.write(1, 0, 9), -7);
        Edges.is("two rows and one of none", x.count(8), 3);
    }

    private static void pastes() {
        Edges.of(74, "So many numbers of a SLOT's row, from one on, are put to another one's (or its own), from one on, as they were: 0.");
        for (int width = 0; width < 4; width++) {
            QuarrelBridge x = reader(width);
            Edges.tell(x, 0, width, 1, 2, 3, 4, 5);
            x.row(1, width, 7);
            Edges.is("all", x.paste(0, 0, 1, 0, 5), 0);
            digits(x, "all", 1, 0, 1, 2, 3, 4, 5, 0, 0);
            Edges.is("to the end", x.paste(0, 3, 1, 5, 2), 0);
            digits(x, "to the end", 1, 4, 5, 4, 5);
            Edges.is("its own, up", x.paste(0, 0, 0, 1, 4), 0);
            digits(x, "its own, up", 0, 0, 1, 1, 2, 3, 4);
            Edges.tell(x, 0, width, 1, 2, 3, 4, 5);
            Edges.is("its own, down", x.paste(0, 1, 0, 0, 4), 0);
            digits(x, "its own, down", 0, 0, 2, 3, 4, 5, 5);
            Edges.is("its own, in place", x.paste(0, 0, 0, 0, 5), 0);
            digits(x, "its own, in place", 0, 0, 2, 3, 4, 5, 5);
            Edges.all("none at all", 0, x.paste(0, 0, 1, 0, 0), x.paste(0, 5, 1, 7, 0), x.paste(0, 5, 0, 5, 0));
            x.row(2, width, 0);
            Edges.all("none of none", 0, x.paste(2, 0, 0, 5, 0), x.paste(0, 5, 2, 0, 0), x.paste(2, 0, 2, 0, 0));
            digits(x, "none at all", 1, 0, 1, 2, 3, 4, 5, 4, 5);
        }
        QuarrelBridge y = Edges.on(READER);
        y.row(0, 3, 60);
        y.row(1, 3, 60);
        y.row(3, 3, 2);
        y.write(3, 0, 1);
        y.write(0, 0, 8);
        y.write(0, 59, 9);
        Edges.is("60", y.paste(0, 0, 1, 0, 60), 0);
        digits(y, "60, the first", 1, 0, 8, 0);
        digits(y, "60, the last", 1, 58, 0, 9);
        Edges.is("59, its own", y.paste(1, 1, 1, 0, 59), 0);
        digits(y, "59, its own", 1, 57, 0, 9, 9);
    }

    private static void pastesRefused() {
        QuarrelBridge x = reader(2);
        Edges.tell(x, 0, 2, 1, 2, 3);
        Edges.of(74, "-2: there is no such SLOT");
        Edges.none("from no such SLOT", slot -> x.paste(slot, 0, 0, 0, 1), -2, 4);
        Edges.none("to no such SLOT", slot -> x.paste(0, 0, slot, 0, 1), -2, 4);
        Edges.all("ahead of all", -2, x.paste(1, -1, 4, 0, 1), x.paste(4, -1, 1, 0, -1));
        Edges.of(74, "-6: one has nothing");
        Edges.all("nothing", -6, x.paste(0, 0, 1, 0, 1), x.paste(1, 0, 0, 0, 1), x.paste(1, 0, 2, 0, 1), x.paste(1, 0, 1, 0, 0));
        Edges.all("ahead of -7", -6, x.paste(0, -1, 1, 0, 1), x.paste(1, 0, 0, 0, -1));
        Edges.of(74, "-8: they are not of one WIDTH");
        for (int width : new int[] {0, 1, 3}) {
            x.row(1, width, 3);
            Edges.all("unlike", -8, x.paste(0, 0, 1, 0, 1), x.paste(1, 0, 0, 0, 1), x.paste(0, 0, 1, 0, 0));
            Edges.all("ahead of -7", -8, x.paste(0, -1, 1, 0, 1), x.paste(1, 0, 0, 9, 1));
        }
        digits(x, "nothing happens", 0, 0, 1, 2, 3);
        Edges.of(74, "-7, and nothing happens: some are beyond their rows, or a place or n is below 0.");
        Edges.tell(x, 1, 2, 4, 5);
        Edges.all("beyond the first", -7, x.paste(1, 0, 0, 0, 3), x.paste(1, 2, 0, 0, 1), x.paste(1, 1, 0, 0, 2), x.paste(1, 3, 0, 0, 0));
        Edges.all("beyond the other", -7, x.paste(0, 0, 1, 0, 3), x.paste(0, 0, 1, 2, 1), x.paste(0, 0, 1, 1, 2), x.paste(0, 0, 1, 3, 0));
        Edges.all("below 0", -7, x.paste(0, -1, 1, 0, 1), x.paste(0, 0, 1, -1, 1), x.paste(0, 0, 1, 0, -1), x.paste(0, -1, 1, -1, 0),
                x.paste(0, 3, 1, 2, -1), x.paste(0, -1, 1, 0, 2));
        int[] far = {Edges.HIGH, Edges.HIGH - 1, Edges.LOW, Edges.LOW + 1};
        for (int one : far) {
            Edges.all("far", -7, x.paste(0, one, 1, 0, 1), x.paste(0, 0, 1, one, 1), x.paste(0, 0, 1, 0, one), x.paste(0, 1, 1, 1, one),
                    x.paste(0, one, 1, one, one), x.paste(0, one, 0, 0, 0), x.paste(0, one, 1, 0, Edges.HIGH), x.paste(0, one, 1, 0, 4));
        }
        digits(x, "nothing happens", 0, 0, 1, 2, 3);
        digits(x, "nothing happens", 1, 0, 4, 5);
    }
}
