import java.util.function.ToLongFunction;

/** Acts, counts and images: promises 64 to 71, what refused calls leave, and the 512 calls of an object. */
final class EdgeActs {
    private static final int[] FAR = {Edges.LOW, -2, -1, 60, 64, 1000, Edges.HIGH};

    private EdgeActs() { }

    static void run() {
        does();
        doesRefused();
        undo();
        anew();
        done();
        rate();
        counts();
        image();
        back();
        backOfAll();
        refusedCalls();
        manyCalls();
    }

    private static void does() {
        Edges.of(64, "A DEED (NONE: none) is done on a DAY from now on: what was (NONE: none).");
        QuarrelBridge x = Edges.on(EdgeDays.PLAIN);
        Edges.is("DEED 0", x.does(0, 0), -1);
        Edges.is("DEED 1 in its place", x.does(0, 1), 0);
        Edges.is("the same again", x.does(0, 1), 1);
        Edges.is("none in its place", x.does(0, -1), 1);
        Edges.is("none again", x.does(0, -1), -1);
        Edges.is("on the last DAY", x.does(2, 1), -1);
        Edges.is("all are acts", x.count(5), 6);
        Edges.row("done", x::done, -1, -1, 1);
        Edges.row("from now on", x::width, 7, 5, 0);
    }

    private static void doesRefused() {
        Edges.of(64, "-5: there were 40 acts");
        QuarrelBridge x = Edges.on(EdgeDays.PLAIN);
        for (int act = 0; act < 40; act++) {
            Edges.is("act " + act, x.does(1, act % 2), act == 0 ? -1 : 1 - act % 2);
        }
        Edges.all("one more", -5, x.does(1, 0), x.does(0, -1), x.does(2, 1));
        Edges.is("acts", x.count(5), 40);
        Edges.row("done", x::done, -1, 1, -1);
        x.undo();
        Edges.is("in place of one taken back", x.does(2, 0), -1);
        Edges.is("and no more", x.does(2, 0), -5);
        x.anew();
        Edges.is("anew", x.does(2, 0), -1);
        Edges.of(64, "-2: there are none such.");
        QuarrelBridge y = Edges.on(EdgeDays.PLAIN);
        Edges.none("no such DAY", day -> y.does(day, 0), -2, 3);
        Edges.none("no such DAY for none", day -> y.does(day, -1), -2, 3);
        for (int deed : new int[] {-2, 2, 3, 4, 32, Edges.LOW, Edges.HIGH}) Edges.is("no such DEED", y.does(0, deed), -2);
        Edges.is("no acts", y.count(5), 0);
        QuarrelBridge bare = Edges.on(EdgeDays.BARE);
        Edges.is("without DEEDS", bare.does(0, 0), -2);
        Edges.is("none, without DEEDS", bare.does(0, -1), -1);
        QuarrelBridge no = new QuarrelBridge();
        Edges.all("no BRIDGE", -2, no.does(0, -1), no.does(0, 0), no.does(-1, -1));
    }

    private static void undo() {
        Edges.of(65, "The latest act is taken back: how many there are.");
        QuarrelBridge x = Edges.on(EdgeDays.PLAIN);
        x.does(0, 0);
        x.does(1, 0);
        x.does(0, 1);
        x.does(0, -1);
        Edges.is("undo", x.undo(), 3);
        Edges.row("done", x::done, 1, 0, -1);
        Edges.is("undo", x.undo(), 2);
        Edges.row("done", x::done, 0, 0, -1);
        Edges.is("undo", x.undo(), 1);
        Edges.row("done", x::done, 0, -1, -1);
        Edges.is("undo", x.undo(), 0);
        Edges.row("done", x::done, -1, -1, -1);
        Edges.of(65, "-5: there is none");
        Edges.all("of none", -5, x.undo(), x.undo(), Edges.on(EdgeDays.BARE).undo());
        Edges.is("acts", x.count(5), 0);
        for (int act = 0; act < 40; act++) x.does(act % 3, act % 2);
        for (int act = 39; act >= 0; act--) Edges.is("of 40", x.undo(), act);
        Edges.is("and no more", x.undo(), -5);
        Edges.of(65, "-2: there is no BRIDGE.");
        Edges.is("undo", new QuarrelBridge().undo(), -2);
        x.does(0, 0);
        x.bridge();
        Edges.is("undo of one that is gone", x.undo(), -2);
    }

    private static void anew() {
        Edges.of(66, "All are: how many there were.");
        QuarrelBridge x = Edges.on(EdgeDays.PLAIN);
        Edges.is("none", x.anew(), 0);
        x.does(0, 0);
        Edges.is("one", x.anew(), 1);
        for (int act = 0; act < 40; act++) x.does(act % 3, act % 2);
        Edges.is("40", x.anew(), 40);
        Edges.is("none again", x.anew(), 0);
        Edges.row("done", x::done, -1, -1, -1);
        Edges.is("acts", x.count(5), 0);
        Edges.is("undo of none", x.undo(), -5);
        Edges.of(66, "-2 likewise.");
        Edges.is("anew", new QuarrelBridge().anew(), -2);
    }

    private static void done() {
        Edges.of(67, "The DEED that is done on a DAY.");
        QuarrelBridge x = Edges.on(EdgeDays.MOST);
        for (int day = 0; day < 6; day++) x.does(day, 3 - day % 4);
        Edges.row("done", x::done, 3, 2, 1, 0, 3, 2);
        Edges.of(67, "NONE: none");
        x.does(5, -1);
        Edges.is("none in its place", x.done(5), -1);
        Edges.is("of the start", Edges.on(EdgeDays.BARE).done(0), -1);
        Edges.of(67, "-2: there is none such.");
        Edges.none("done", x::done, -2, 6);
        Edges.none("done of one DAY", Edges.on(EdgeDays.BARE)::done, -2, 1);
        Edges.none("done of none", new QuarrelBridge()::done, -2, 0);
    }

    private static void rate() {
        Edges.of(68, "What a CART pays is n (0 .. 999) from now on: what it was.");
        QuarrelBridge x = Edges.on(EdgeDays.PLAIN);
        Edges.is("999", x.rate(0, 999), 10);
        Edges.is("pays", x.pays(), 1004);
        Edges.is("0", x.rate(0, 0), 999);
        Edges.is("BEST", x.best(), 8);
        Edges.is("the same", x.rate(0, 0), 0);
        Edges.is("the last CART", x.rate(3, 1), 100);
        Edges.row("cart", cart -> x.cart(cart, 4), 0, 7, 5, 1);
        Edges.of(68, "-5: there were acts");
        x.does(0, -1);
        Edges.all("refused", -5, x.rate(0, 1), x.rate(3, 1), x.rate(0, 0));
        Edges.row("cart", cart -> x.cart(cart, 4), 0, 7, 5, 1);
        x.undo();
        Edges.is("taken back", x.rate(0, 3), 0);
        x.does(0, 0);
        x.does(0, 0);
        x.undo();
        Edges.is("one of two taken back", x.rate(0, 4), -5);
        x.anew();
        Edges.is("anew", x.rate(0, 4), 3);
        Edges.of(68, "-2: there are none such.");
        Edges.none("no such CART", cart -> x.rate(cart, 0), -2, 4);
        Edges.none("no such n", n -> x.rate(0, n), -2, 1000);
        Edges.is("cart", x.cart(0, 4), 4);
        Edges.all("without CARTS, a BRIDGE", -2, Edges.on(EdgeDays.BARE).rate(0, 0), new QuarrelBridge().rate(0, 0));
    }

    private static void counts() {
        Edges.of(69, "0 DAYS, 1 cools, 2 odds, 3 DEEDS, 4 CARTS, 5 acts, 6 LINES, 7 bytes of the TAPE, 8 SLOTS that have a row.");
        QuarrelBridge no = new QuarrelBridge();
        Edges.row("at first", no::count, 0, 0, 0, 0, 0, 0, 0, 0, 0);
        Edges.row("the least", Edges.on(Edges.bridge(1, 60, 60, 0, 0))::count, 1, 0, 0, 0, 0, 0, 1, 0, 0);
        QuarrelBridge x = Edges.on(Edges.bridge(6, 0, 0, 9, 10), Edges.deed(0, 0, 0, 0).repeat(4), Edges.cart(0, 1, 0, 0, 0).repeat(6));
        for (int act = 0; act < 40; act++) x.does(0, 0);
        for (int i = 0; i < 40; i++) x.feed(0, 0, 0, 0, 0);
        for (int slot = 0; slot < 4; slot++) x.row(slot, 0, 0);
        Edges.row("the most", x::count, 6, 9, 10, 4, 6, 40, 11, 800, 4);
        x.end(799);
        x.row(2, 1, 5);
        x.undo();
        Edges.row("less", x::count, 6, 9, 10, 4, 6, 39, 11, 799, 4);
        Edges.of(69, "NONE for others.");
        Edges.none("count", x::count, -1, 9);
        Edges.none("count of none", no::count, -1, 9);
    }

    private static void image() {
        Edges.of(70, "IMAGE k (0 .. 2) keeps the BRIDGE, and acts: 0.");
        QuarrelBridge x = Edges.on(EdgeDays.PLAIN);
        Edges.row("image", x::image, 0, 0, 0);
        x.does(0, 1);
        Edges.is("in place of another", x.image(1), 0);
        x.back(0);
        Edges.is("IMAGE 0", x.count(5), 0);
        x.back(1);
        Edges.is("IMAGE 1", x.count(5), 1);
        Edges.is("its act", x.done(0), 1);
        x.back(2);
        Edges.is("IMAGE 2", x.count(5), 0);
        Edges.is("of no BRIDGE", new QuarrelBridge().image(2), 0);
        Edges.of(70, "-2: no such k.");
        Edges.none("image", x::image, -2, 3);
        Edges.none("image of none", new QuarrelBridge()::image, -2, 3);
        Edges.is("as it was", x.count(5), 0);
    }

    private static void back() {
        QuarrelBridge x = Edges.on(EdgeDays.PLAIN);
        Edges.of(71, "-2: no such k");
        Edges.none("back", x::back, -2, 3);
        Edges.of(71, "-6: it has nothing.");
        x.does(0, 0);
        Edges.row("back", x::back, -6, -6, -6);
        Edges.row("of none", new QuarrelBridge()::back, -6, -6, -6);
        Edges.is("nothing happens", x.count(5), 1);
        x.image(1);
        Edges.all("others", -6, x.back(0), x.back(2));
        Texts.feed(x, "?");
        x.bridge();
        Edges.all("others behind a FAULT", -6, x.back(0), x.back(2));
    }

    private static void backOfAll() {
        Edges.of(71, "It is as IMAGE k has it: 0.");
        QuarrelBridge x = Edges.on(EdgeDays.PLAIN);
        x.rate(1, 8);
        for (int act = 0; act < 40; act++) x.does(act % 3, act % 2);
        x.image(0);
        x.anew();
        x.rate(1, 9);
        x.rate(2, 900);
        Edges.is("another BEST", x.best(), 915);
        Edges.is("back", x.back(0), 0);
        Edges.is("what CARTS pay", x.cart(1, 4), 8);
        Edges.is("BEST", x.best(), 19);
        Edges.is("acts", x.count(5), 40);
        Edges.is("no more acts", x.does(0, 0), -5);
        Edges.is("undo", x.undo(), 39);
        Edges.is("what was ahead of it", x.done(0), 0);
        x.anew();
        for (int act = 0; act < 40; act++) x.does(1, -1);
        Edges.is("IMAGE as it was", x.back(0), 0);
        Edges.row("undo, act by act", act -> x.undo(), 39, 38, 37, 36);
        Edges.row("what was ahead of them", x::done, 1, 0, 1);
        Edges.is("again", x.back(0), 0);
        Edges.is("acts again", x.count(5), 40);
        Texts.feed(x, EdgeDays.MOST);
        x.bridge();
        Edges.is("BEST of another", x.best(), 5994);
        x.image(1);
        x.back(0);
        // DEED 1, 1, then 0: 0 9, 0 9, 3 12.
        Edges.row("WIDTHS", x::width, 0, 0, 3);
        Edges.is("BEST of the first", x.best(), 19);
        Edges.is("CHEAP of the first", x.cheap(2), 4);
        x.back(1);
        Edges.is("BEST of the other", x.best(), 5994);
        Edges.is("CHEAP of the other", x.cheap(63), 0);
        Edges.row("counts of the other", x::count, 6, 0, 0, 4, 6, 0, 11);
        x.bridge();
        x.image(2);
        x.back(1);
        Edges.is("LINES", x.count(6), 11);
        Edges.is("no BRIDGE, as IMAGE 2 has it", x.back(2), 0);
        Edges.row("none", x::count, 0, 0, 0, 0, 0, 0, 0);
        Edges.is("no WIDTH", x.width(0), -2);
        Texts.feed(x, "abc");
        x.row(0, 0, 1);
        x.back(0);
        Edges.is("the TAPE stays", x.count(7), 3);
        Edges.is("SLOTS stay", x.count(8), 1);
    }

    /** An object with something everywhere: acts, a TAPE, an IMAGE, rows, and a FAULT behind it. */
    private static QuarrelBridge rich() {
        QuarrelBridge x = Edges.on(EdgeDays.PLAIN);
        x.rate(1, 8);
        x.does(1, 0);
        x.image(1);
        x.does(2, 1);
        Texts.feed(x, "bridge days 2 feels 3 ?");
        x.bridge();
        Texts.feed(x, EdgeDays.BARE);
        Edges.tell(x, 0, 1, 1, 2, 3, 4);
        Edges.tell(x, 1, 0, 0, 7);
        return x;
    }

    /** What an object answers, all that a call could have changed. */
    private static String answers(QuarrelBridge x) {
        StringBuilder all = new StringBuilder();
        for (int what = 0; what <= 8; what++) all.append(x.count(what)).append(' ');
        all.append(x.fault(0)).append(' ').append(x.fault(1)).append(' ');
        for (int day = 0; day < 3; day++) {
            all.append(x.done(day)).append(' ').append(x.feels(0, day)).append(' ').append(x.feels(1, day)).append(' ');
        }
        for (int cart = 0; cart < 4; cart++) all.append(x.cart(cart, 4)).append(' ').append(x.passes(cart)).append(' ');
        all.append(x.best()).append(' ').append(x.ways()).append(' ').append(x.fits(1)).append(' ').append(x.slight(1)).append(' ');
        for (int slot = 0; slot < 4; slot++) all.append(x.fair(slot)).append(' ').append(x.leave(slot)).append(' ');
        all.append(x.undo()).append(' ').append(x.done(2)).append(' ').append(x.back(0)).append(' ').append(x.back(2)).append(' ');
        all.append(x.back(1)).append(' ').append(x.count(5)).append(' ').append(x.done(1)).append(' ').append(x.cart(1, 4)).append(' ');
        all.append(x.bridge()).append(' ').append(x.count(6)).append(' ').append(x.width(0)).append(' ').append(x.paste(0, 2, 1, 0, 1));
        return all.toString();
    }

    private static void leaves(String call, ToLongFunction<QuarrelBridge> refused, long want) {
        QuarrelBridge x = rich();
        Edges.is(call, refused.applyAsLong(x), want);
        Edges.is(call + " changes nothing", answers(x).equals(answers(rich())) ? 1 : 0, 1);
    }

    private static void refusedCalls() {
        Edges.of(3, "NONE, and nothing happens, if it has not so many, or n is below 0");
        for (int n : FAR) leaves("end " + n, x -> x.end(n), -1);
        Edges.of(64, "-2: there are none such.");
        for (int n : FAR) {
            leaves("does on " + n, x -> x.does(n, 0), -2);
            leaves("does none on " + n, x -> x.does(n, -1), -2);
            if (n != -1) leaves("does " + n, x -> x.does(0, n), -2);
        }
        Edges.of(68, "-2: there are none such.");
        for (int n : FAR) leaves("rate of " + n, x -> x.rate(n, 5), -2);
        Edges.of(68, "-5: there were acts");
        for (int n : new int[] {0, 8, 999}) leaves("rate 1 " + n, x -> x.rate(1, n), -5);
        Edges.of(70, "-2: no such k.");
        for (int n : FAR) leaves("image " + n, x -> x.image(n), -2);
        Edges.of(71, "-2: no such k");
        for (int n : FAR) leaves("back " + n, x -> x.back(n), -2);
        Edges.of(71, "-6: it has nothing.");
        for (int n : new int[] {0, 2}) leaves("back " + n, x -> x.back(n), -6);
        Edges.of(72, "-2: there is no such SLOT or WIDTH (0 .. 3), or n is above 60");
        for (int n : FAR) {
            leaves("row of SLOT " + n, x -> x.row(n, 0, 2), -2);
            leaves("row of WIDTH " + n, x -> x.row(0, n, 2), -2);
        }
        for (int n : new int[] {61, 64, Edges.HIGH}) leaves("row of " + n, x -> x.row(0, 1, n), -2);
        Edges.of(72, "-3, and the SLOT stays: n is below 0");
        for (int n : new int[] {-1, -2, Edges.LOW}) leaves("row of " + n, x -> x.row(1, 1, n), -3);
        Edges.of(73, "-7: there is no such number.");
        for (int n : FAR) leaves("write " + n, x -> x.write(0, n, 9), -7);
        Edges.of(73, "-6: it has nothing");
        leaves("write to nothing", x -> x.write(2, 0, 9), -6);
        Edges.of(74, "-8: they are not of one WIDTH");
        leaves("paste 0 to 1", x -> x.paste(0, 0, 1, 0, 1), -8);
        Edges.of(74, "-7, and nothing happens: some are beyond their rows, or a place or n is below 0.");
        for (int n : FAR) {
            leaves("paste from " + n, x -> x.paste(0, n, 0, 0, 1), -7);
            leaves("paste to " + n, x -> x.paste(0, 0, 0, n, 1), -7);
            leaves("paste of " + n, x -> x.paste(0, 0, 0, 0, n), -7);
        }
        leaves("paste, one too many", x -> x.paste(0, 0, 0, 1, 4), -7);
    }

    private static void manyCalls() {
        Edges.of(Edges.TERMS, "An object is used for at most 512 calls after it has been made");
        QuarrelBridge x = Edges.on(EdgeDays.PLAIN); // 17 calls or less
        for (int call = 0; call < 120; call++) {
            Edges.is("best", x.best(), 18);
            Edges.is("image", x.image(call % 3), 0);
            Edges.is("back", x.back(call % 3), 0);
            Edges.is("queue", x.queue(), -1);
        }
        Edges.is("still", x.width(0), 7);
    }
}
