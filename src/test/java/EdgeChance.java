/** Treaties and tempers: Terms VI, VII and promises 55 to 57 and 60 to 63. */
final class EdgeChance {
    private static final int NO = -1000000;

    private EdgeChance() { }

    static void run() {
        treatyTerms();
        rests();
        rest();
        has();
        temperTerms();
        drawTerms();
        chance();
        when();
        drawn();
        luck();
    }

    private static void treatyTerms() {
        Edges.of(Edges.TERMS, "On a DAY each SIDE does one of its own DEEDS, or none (in place of what is done that DAY; both, if two are:"
                + " SIDE 0's first): a SIDE has what its CARTS that pass no later than due pay, less the cost of its own choice.");
        // 50 and 30 are 60 at most, less 30 are 30; the other way round it would be 50.
        QuarrelBridge x = Edges.on(Edges.bridge(1, 50, 50, 0, 0), Edges.deed(1, 5, -30, -30), Edges.deed(0, 3, 30, 30),
                Edges.cart(0, 31, 0, 0, 7), Edges.cart(1, 30, 0, 0, 9));
        Edges.is("SIDE 0's first: 31 does not pass", x.has(0, 1, 0, 0), -3);
        Edges.is("but 30 does", x.has(1, 1, 0, 0), 4);
        // 20 less 30 is 0 at least, and 30 are 30; the other way round it would be 20.
        QuarrelBridge y = Edges.on(Edges.bridge(1, 20, 20, 0, 0), Edges.deed(0, 3, -30, -30), Edges.deed(1, 5, 30, 30),
                Edges.cart(0, 30, 0, 0, 7));
        Edges.is("SIDE 0's first: 30 passes", y.has(0, 0, 1, 0), 4);
        y.does(0, 1);
        Edges.is("in place of what is done", y.has(0, -1, -1, 0), 0);
        Edges.is("also by the same", y.has(1, -1, 1, 0), -5);
        // CART 0 passes on DAY 1, its due; CART 1 on DAY 2, late.
        QuarrelBridge z = Edges.on(Edges.bridge(3, 0, 5, 0, 0), Edges.deed(0, 9, 5, 0), Edges.cart(0, 5, 0, 1, 20), Edges.cart(0, 5, 0, 1, 40));
        Edges.is("on the due, not behind it", z.has(0, 0, -1, 1), 11);
        z.does(0, 0);
        Edges.is("what is done on another DAY is done, and costs nothing here", z.has(0, -1, -1, 2), 60);
        Edges.of(Edges.TERMS, "REST: neither has more by another choice alone.");
        QuarrelBridge w = Edges.on(Edges.bridge(1, 5, 5, 0, 0), Edges.deed(0, 3, 1, 1), Edges.cart(0, 6, 0, 0, 3));
        Edges.is("as much is not more: both rest", w.rests(0), 2);
        w.rate(0, 4);
        Edges.is("one more: the DEED rests", w.rests(0), 1);
        Edges.is("it", w.rest(0), 10);
        w.rate(0, 2);
        Edges.is("one less: none rests", w.rest(0), 0);
        // By both DEEDS CART 0 passes, but CART 1 does so without them.
        QuarrelBridge v = Edges.on(Edges.bridge(1, 5, 5, 0, 0), Edges.deed(0, 1, 5, 0), Edges.deed(1, 1, 0, 5),
                Edges.cart(0, 6, 0, 0, 9), Edges.cart(1, 4, 0, 0, 2));
        // none none: 0, 2. 0 none: -1, 2. none 1: 0, 1. 0 1: 8, 1: SIDE 1 has 2 by none.
        Edges.is("by another choice alone", v.rests(0), 1);
    }

    private static void rests() {
        Edges.of(55, "TREATY (VI): pairs of choices at REST, on a DAY: how many.");
        String still = Edges.bridge(2, 5, 5, 0, 0);
        Edges.row("without DEEDS", Edges.on(still)::rests, 1, 1);
        Edges.row("nine", Edges.on(still, Edges.deed(0, 0, 1, 1), Edges.deed(1, 0, 1, 1), Edges.deed(0, 0, 1, 1),
                Edges.deed(1, 0, 1, 1))::rests, 9, 9);
        Edges.row("five, of SIDE 0", Edges.on(still, Edges.deed(0, 0, 1, 1).repeat(4))::rests, 5, 5);
        Edges.row("five, of SIDE 1", Edges.on(still, Edges.deed(1, 0, 1, 1).repeat(4))::rests, 5, 5);
        Edges.row("costs", Edges.on(still, Edges.deed(0, 1, 1, 1), Edges.deed(1, 0, 1, 1))::rests, 2, 2);
        Edges.row("none at all", Edges.on(runaway())::rests, 0);
        Edges.of(55, "-2: there is none such.");
        Edges.none("rests", Edges.on(still)::rests, -2, 2);
        Edges.none("rests of none", new QuarrelBridge()::rests, -2, 0);
    }

    /** SIDE 0 wants 9 or more for its CART, SIDE 1 wants 8 and no more: one runs from the other. */
    private static String runaway() {
        return Edges.bridge(1, 8, 8, 0, 0) + Edges.deed(0, 1, 1, 1) + Edges.deed(1, 1, -1, -1) + Edges.cart(0, 9, 0, 0, 9)
                + Edges.cart(1, 8, 0, 0, 9);
    }

    private static void rest() {
        Edges.of(56, "The first such pair: 10 times the choice of SIDE 0 and that of SIDE 1 (a DEED and 1; 0 for none), the least number.");
        String still = Edges.bridge(1, 5, 5, 0, 0);
        Edges.is("of nine", Edges.on(still, Edges.deed(0, 0, 1, 1), Edges.deed(1, 0, 1, 1)).rest(0), 0);
        QuarrelBridge one = Edges.on(still, Edges.deed(1, 1, -30, -30), Edges.deed(0, 0, -30, -30), Edges.deed(1, 2, 30, 30),
                Edges.deed(0, 2, 30, 30), Edges.cart(0, 6, 0, 0, 9));
        Edges.is("DEED 3 of SIDE 0", one.rest(0), 40);
        QuarrelBridge other = Edges.on(still, Edges.deed(0, 2, 30, 30), Edges.deed(0, 0, -1, -1), Edges.deed(1, 0, -1, -1),
                Edges.deed(1, 2, 30, 30), Edges.cart(1, 6, 0, 0, 9));
        Edges.is("DEED 3 of SIDE 1", other.rest(0), 4);
        // Nothing: 2. DEED 2: 4, CART 0. DEED 3: 8, CART 0. Both: 10, both CARTS: 7 and 4 less 1.
        Edges.is("DEEDS 2 and 3", Edges.on(Edges.bridge(1, 2, 3, 0, 0), Edges.deed(0, 2, -1, -2), Edges.deed(1, 2, -3, -2),
                Edges.deed(0, 0, 2, 3), Edges.deed(1, 1, 6, 6), Edges.cart(0, 4, 0, 0, 7), Edges.cart(1, 6, 0, 0, 4)).rest(0), 34);
        // CART 0 takes all of 5; by both DEEDS, not by one, it is 35 wide, and all pass.
        QuarrelBridge both = Edges.on(still, Edges.deed(0, 1, 30, 0), Edges.deed(1, 1, 0, 30), Edges.cart(0, 5, 0, 0, 0),
                Edges.cart(0, 1, 0, 0, 9), Edges.cart(1, 1, 0, 0, 9));
        Edges.is("none and none, as one alone does not help", both.rest(0), 0);
        Edges.is("and both", both.rests(0), 2);
        Edges.of(56, "NONE: there is none");
        Edges.is("none", Edges.on(runaway()).rest(0), -1);
        Edges.of(56, "-2 likewise.");
        Edges.none("rest", Edges.on(still)::rest, -2, 1);
        Edges.none("rest of none", new QuarrelBridge()::rest, -2, 0);
    }

    private static void has() {
        Edges.of(57, "What a SIDE has (VI) by a pair of choices (a DEED or NONE: of SIDE 0, then of SIDE 1) on a DAY.");
        QuarrelBridge x = Edges.on(Edges.bridge(2, 5, 5, 0, 0), Edges.deed(0, 99, 0, 0), Edges.deed(1, 98, 5, 5),
                Edges.cart(0, 5, 0, 0, 10), Edges.cart(1, 5, 0, 0, 11));
        long[][] due = {{-1, -1, 10, 0}, {0, -1, -89, 0}, {-1, 1, 10, -87}, {0, 1, -89, -87}};
        for (long[] one : due) {
            Edges.is("SIDE 0 by " + one[0] + " " + one[1], x.has(0, (int) one[0], (int) one[1], 0), one[2]);
            Edges.is("SIDE 1 by " + one[0] + " " + one[1], x.has(1, (int) one[0], (int) one[1], 0), one[3]);
        }
        x.has(0, -1, 1, 0);
        Edges.row("nothing is done by it: WIDTH", x::width, 5, 5);
        x.rests(1);
        Edges.row("nothing is done by it: passes", x::passes, 0, 1);
        Edges.is("acts", x.count(5), 0);
        Edges.is("the least", Edges.on(Edges.bridge(1, 0, 0, 0, 0), Edges.deed(0, 99, 0, 0)).has(0, 0, -1, 0), -99);
        Edges.is("the most", Edges.on(EdgeDays.MOST).has(0, -1, -1, 5), 5994);
        Edges.is("of the other SIDE", Edges.on(EdgeDays.MOST).has(1, -1, -1, 5), 0);
        Edges.of(57, "-1,000,000: there are none such (a DEED of the other SIDE, too).");
        Edges.none("no such SIDE", side -> x.has(side, -1, -1, 0), NO, 2);
        Edges.none("no such DAY", day -> x.has(0, -1, -1, day), NO, 2);
        int[] strange = {-2, 2, 3, 4, 32, Edges.LOW, Edges.HIGH};
        for (int deed : strange) {
            Edges.all("no such DEED", NO, x.has(0, deed, -1, 0), x.has(1, deed, -1, 0), x.has(0, -1, deed, 0), x.has(1, -1, deed, 0));
        }
        Edges.all("of the other SIDE", NO, x.has(0, 1, -1, 0), x.has(1, 1, -1, 0), x.has(0, -1, 0, 0), x.has(1, -1, 0, 0), x.has(0, 1, 0, 0));
        Edges.all("no BRIDGE", NO, new QuarrelBridge().has(0, -1, -1, 0), new QuarrelBridge().has(2, 0, 0, -1));
    }

    private static void temperTerms() {
        Edges.of(Edges.TERMS, "Each DAY has a temper with odds in ten, by itself: then both feelings are 5 less (0 at least) behind its DEED.");
        QuarrelBridge x = Edges.on(Edges.bridge(2, 4, 60, 0, 10), Edges.deed(0, 0, 30, 0), Edges.deed(0, 0, 6, 0));
        fraction(x, "4 less 5 is 0", 0, 0, 1, 1);
        fraction(x, "not 1", 0, 1, 0, 1);
        x.does(1, 1); // 0, then 6 less 5
        fraction(x, "DAY 1 from 0, not from -1", 1, 1, 1, 1);
        fraction(x, "behind its DEED", 1, 2, 0, 1);
        x.does(0, 0); // 34 less 5, then 35 less 5
        fraction(x, "behind its DEED", 0, 29, 1, 1);
        fraction(x, "not more", 0, 30, 0, 1);
        fraction(x, "twice", 1, 30, 1, 1);
        fraction(x, "not more", 1, 31, 0, 1);
        Edges.is("WIDTH has none", x.width(0), 34);
        // 60 at most by the DEED, then 5 less; cools behind the temper.
        QuarrelBridge y = Edges.on(Edges.bridge(2, 50, 60, 3, 10), Edges.deed(0, 0, 30, 30));
        y.does(0, 0);
        fraction(y, "60 less 5", 0, 55, 1, 1);
        fraction(y, "not more", 0, 56, 0, 1);
        fraction(y, "cools, and 5", 1, 47, 1, 1);
        fraction(y, "not more", 1, 48, 0, 1);
        QuarrelBridge z = Edges.on(Edges.bridge(2, 20, 20, 0, 1));
        fraction(z, "none by itself", 1, 20, 81, 100);
        fraction(z, "one or none", 1, 15, 99, 100);
        fraction(z, "both, too", 1, 10, 1, 1);
        Edges.of(Edges.TERMS, "FRACTIONS are told in lowest terms (0 / 1).");
        QuarrelBridge w = Edges.on(Edges.bridge(6, 60, 60, 0, 5));
        fraction(w, "1 / 64", 5, 60, 1, 64);
        fraction(w, "7 / 64", 5, 55, 7, 64);
        fraction(w, "1 / 2", 0, 60, 1, 2);
        QuarrelBridge v = Edges.on(Edges.bridge(6, 59, 60, 0, 3));
        fraction(v, "the greatest below", 5, 59, 117649, 1000000);
        fraction(v, "0 / 1", 5, 60, 0, 1);
        fraction(v, "1 / 1", 5, 0, 1, 1);
    }

    private static void fraction(QuarrelBridge x, String what, int day, int n, long above, long below) {
        Edges.is(what + ", above", x.chance(day, n, 0), above);
        Edges.is(what + ", below", x.chance(day, n, 1), below);
    }

    private static void drawTerms() {
        Edges.of(Edges.TERMS, "DRAWS: x becomes (1103515245 x + 12345) modulo 2,147,483,648 (at first it is the seed); a draw: x / 65536, cut, modulo 10.");
        // Read off by odds: a draw is below odds from one odds on.
        int[][] due = {{0, 0, 8, 8, 7, 8, 7}, {1, 8, 8, 3, 5, 1, 7}, {2, 8, 7, 9, 4, 7, 5}, {2000000000, 4, 3, 1, 7, 6, 2}};
        for (int[] one : due) {
            for (int odds = 0; odds <= 10; odds++) {
                int bits = 0;
                for (int day = 0; day < 6; day++) bits |= one[day + 1] < odds ? 1 << day : 0;
                Edges.is("seed " + one[0] + ", odds " + odds, Edges.on(Edges.bridge(6, 9, 9, 0, odds)).drawn(one[0], 0), bits);
            }
        }
        Edges.of(Edges.TERMS, "Days drawn: DAY by DAY a draw: below odds it has one.");
        Edges.is("as odds: not", Edges.on(Edges.bridge(2, 9, 9, 0, 8)).drawn(1, 0), 0);
        Edges.is("below odds", Edges.on(Edges.bridge(2, 9, 9, 0, 9)).drawn(1, 0), 3);
        Edges.is("never", Edges.on(Edges.bridge(6, 9, 9, 0, 0)).drawn(0, 0), 0);
        Edges.is("always", Edges.on(Edges.bridge(6, 9, 9, 0, 10)).drawn(2, 0), 63);
        Edges.is("as many as DAYS", Edges.on(Edges.bridge(1, 9, 9, 0, 10)).drawn(2, 0), 1);
    }

    private static void chance() {
        Edges.of(60, "CHANCE (VII): that WIDTH is n (0 .. 60) at least on a DAY, above (what 0), below (1).");
        QuarrelBridge x = Edges.on(Edges.bridge(2, 10, 12, 1, 3));
        // 10, or 5; then 9, 4, 4, 0.
        fraction(x, "5", 0, 5, 1, 1);
        fraction(x, "6", 0, 6, 7, 10);
        fraction(x, "10", 0, 10, 7, 10);
        fraction(x, "11", 0, 11, 0, 1);
        fraction(x, "9 on DAY 1", 1, 9, 49, 100);
        fraction(x, "4 on DAY 1", 1, 4, 91, 100);
        fraction(x, "0 on DAY 1", 1, 0, 1, 1);
        fraction(x, "60", 0, 60, 0, 1);
        fraction(Edges.on(EdgeDays.MOST), "60 of 60", 5, 60, 1, 1);
        Edges.of(60, "-2: there are none such.");
        Edges.none("no such DAY", day -> x.chance(day, 0, 0), -2, 2);
        Edges.none("no such n", n -> x.chance(0, n, 0), -2, 61);
        Edges.none("no such what", what -> x.chance(0, 0, what), -2, 2);
        Edges.all("no BRIDGE", -2, new QuarrelBridge().chance(0, 0, 0), new QuarrelBridge().chance(0, 0, 1));
    }

    private static void when() {
        Edges.of(61, "The DAY on which that is greatest, the first of several, if it can be.");
        QuarrelBridge x = Edges.on(Edges.bridge(3, 10, 12, 1, 3), Edges.deed(0, 0, 30, 30));
        Edges.is("as it cools, DAY 0", x.when(10), 0);
        Edges.is("sure on all", x.when(0), 0);
        x.does(2, 0);
        Edges.is("by a DEED", x.when(10), 2);
        Edges.is("sure on two", x.when(5), 0);
        Edges.is("of 7 / 10 and 49 / 100", Edges.on(Edges.bridge(2, 10, 10, 0, 3)).when(10), 0);
        QuarrelBridge y = Edges.on(Edges.bridge(2, 5, 5, 0, 5), Edges.deed(0, 0, 5, 5));
        y.does(1, 0);
        // 5 on DAY 0: 1 / 2; on DAY 1: 10, 5, 5, 0 and 5: 3 / 4.
        Edges.is("of 1 / 2 and 3 / 4", y.when(5), 1);
        Edges.is("sure tempers", Edges.on(Edges.bridge(6, 60, 60, 0, 10)).when(30), 0);
        Edges.of(61, "NONE: on none");
        Edges.is("60 of 59", Edges.on(Edges.bridge(6, 59, 60, 0, 0)).when(60), -1);
        Edges.is("by sure tempers", Edges.on(Edges.bridge(6, 60, 60, 0, 10)).when(56), -1);
        Edges.is("just so", Edges.on(Edges.bridge(6, 60, 60, 0, 10)).when(55), 0);
        Edges.is("seldom, but it can be", Edges.on(Edges.bridge(6, 60, 60, 0, 9)).when(60), 0);
        QuarrelBridge z = Edges.on(Edges.bridge(6, 31, 31, 0, 9), Edges.deed(0, 0, 30, 30));
        z.does(5, 0);
        fraction(z, "only without any temper", 5, 60, 1, 1000000);
        Edges.is("one in a million", z.when(60), 5);
        Edges.of(61, "-2: there is no such n, no BRIDGE.");
        Edges.none("when", x::when, -2, 61);
        Edges.none("when of none", new QuarrelBridge()::when, -2, 0);
        Edges.is("when of none", new QuarrelBridge().when(0), -2);
    }

    private static void drawn() {
        Edges.of(62, "Days drawn (VII) from a seed (0 .. 2,000,000,000), what 0: DAYS of a temper, as bits, 1: the WIDTH on the last DAY,"
                + " 2: CARTS that pass, as bits.");
        // Draws of seed 0: 0 8 8, of 2,000,000,000: 4 3 1: tempers on DAY 0; on DAYS 1 and 2.
        QuarrelBridge x = Edges.on(Edges.bridge(3, 9, 60, 0, 4), Edges.deed(0, 0, 6, 0), Edges.cart(0, 9, 0, 0, 1),
                Edges.cart(0, 4, 1, 0, 1), Edges.cart(0, 10, 0, 9, 1));
        Edges.row("seed 0", what -> x.drawn(0, what), 1, 4, 2);
        Edges.row("seed 2,000,000,000", what -> x.drawn(2000000000, what), 6, 0, 3);
        x.does(2, 0);
        // Seed 0: 4 4 10; 2,000,000,000: 9 4 5.
        Edges.row("seed 0, by a DEED", what -> x.drawn(0, what), 1, 10, 3);
        Edges.row("seed 2,000,000,000, by a DEED", what -> x.drawn(2000000000, what), 6, 5, 3);
        Edges.row("at 0", what -> Edges.on(Edges.bridge(2, 4, 60, 0, 10)).drawn(0, what), 3, 0, 0);
        Edges.of(62, "-2: there are none such, no BRIDGE.");
        Edges.none("no such what", what -> x.drawn(0, what), -2, 3);
        int[] strange = {-1, 2000000001, Edges.HIGH, Edges.LOW, -2000000000};
        for (int seed : strange) Edges.all("no such seed", -2, x.drawn(seed, 0), x.drawn(seed, 1), x.drawn(seed, 2));
        Edges.all("no BRIDGE", -2, new QuarrelBridge().drawn(0, 0), new QuarrelBridge().drawn(0, 1), new QuarrelBridge().drawn(0, 2));
    }

    private static void luck() {
        Edges.of(63, "Of n (1 .. 20) such from seeds, the seed and 1, .., in how many a CART passes no later than due.");
        // CART 0 passes on DAY 0 without a temper alone, CART 1 on DAY 1, late, or never.
        QuarrelBridge x = Edges.on(Edges.bridge(2, 9, 60, 0, 4), Edges.cart(0, 9, 0, 0, 1), Edges.cart(0, 4, 1, 0, 1), Edges.cart(0, 9, 1, 9, 1));
        // First draws from 0 on: 0, 8, 8.
        Edges.is("1 of seed 0", x.luck(0, 1, 0), 0);
        Edges.is("1 of seed 1", x.luck(1, 1, 0), 1);
        Edges.is("3 of seed 0", x.luck(0, 3, 0), 2);
        Edges.is("late ones are none", x.luck(0, 3, 1), 0);
        // First draws from 2,000,000,000 on: 4 2 2 1 1 9 0 8 8 6 7 5 5 4 4 2 3 1 1 0: 4 and above 10 times.
        Edges.is("1 of the last seed", x.luck(2000000000, 1, 0), 1);
        Edges.is("2 of the last seed", x.luck(2000000000, 2, 0), 1);
        Edges.is("20 of the last seed: those behind it are drawn, too", x.luck(2000000000, 20, 0), 10);
        Edges.is("all", Edges.on(EdgeDays.MOST).luck(0, 20, 5), 20);
        Edges.is("none", Edges.on(Edges.bridge(1, 9, 9, 0, 10), Edges.cart(0, 5, 0, 0, 1)).luck(0, 20, 0), 0);
        Edges.is("just so", Edges.on(Edges.bridge(1, 9, 9, 0, 10), Edges.cart(0, 4, 0, 0, 1)).luck(0, 20, 0), 20);
        Edges.of(63, "-2: there are none such.");
        Edges.none("no such CART", cart -> x.luck(0, 1, cart), -2, 3);
        int[] strange = {-1, 2000000001, Edges.HIGH, Edges.LOW};
        for (int seed : strange) Edges.is("no such seed", x.luck(seed, 1, 0), -2);
        for (int n : new int[] {0, 21, -1, 256, Edges.HIGH, Edges.LOW}) Edges.is("no such n", x.luck(0, n, 0), -2);
        Edges.is("without CARTS", Edges.on(EdgeDays.BARE).luck(0, 1, 0), -2);
        Edges.is("no BRIDGE", new QuarrelBridge().luck(0, 1, 0), -2);
    }
}
