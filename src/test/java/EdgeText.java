import java.math.BigInteger;

/** The TAPE and its text: Terms I and promises 1 to 5. */
final class EdgeText {
    /** 45, 34 and 38 bytes. */
    private static final String B = "bridge days 2 feels 5 feels 6 cools 1 odds 3;";
    private static final String D = "deed by 1 costs 9 gives 3 takes 2;";
    private static final String C = "cart on 1 wide 4 from 0 due 1 pays 20;";
    private static final int BLANKS = 0x20202020;

    private EdgeText() { }

    static void run() {
        newObject();
        feedBytes();
        feedFull();
        ends();
        bridgeOfTape();
        bridgeInPlace();
        bridgeOfFullTape();
        bridgeRefused();
        faults();
        lines();
        bridgeBounds();
        deedBounds();
        cartBounds();
        numbering();
        tokens();
        firstFault();
        faultOne();
        faultTwo();
        faultThree();
    }

    private static void good(String text, int lines) {
        QuarrelBridge x = new QuarrelBridge();
        Texts.feed(x, text);
        Edges.is("bridge of '" + text + "'", x.bridge(), lines);
        Edges.is("fault of '" + text + "'", x.fault(0), 0);
        Edges.is("place of '" + text + "'", x.fault(1), -1);
        Edges.is("LINES of '" + text + "'", x.count(6), lines);
    }

    private static void bad(String text, int fault, int place) {
        QuarrelBridge x = new QuarrelBridge();
        Texts.feed(x, text);
        Edges.is("bridge of '" + text + "'", x.bridge(), -4);
        Edges.is("fault of '" + text + "'", x.fault(0), fault);
        Edges.is("place of '" + text + "'", x.fault(1), place);
        Edges.is("LINES behind '" + text + "'", x.count(6), 0);
    }

    private static void newObject() {
        QuarrelBridge x = new QuarrelBridge();
        Edges.of(1, "No BRIDGE.");
        for (int what = 0; what <= 8; what++) Edges.is("count " + what, x.count(what), 0);
        Edges.all("back", -6, x.back(0), x.back(1), x.back(2));
        Edges.all("write", -6, x.write(0, 0, 0), x.write(3, 0, 0));
        Edges.is("paste", x.paste(0, 0, 1, 0, 0), -6);
        Edges.is("bridge", x.bridge(), 0);
        Edges.is("end", x.end(0), 0);
    }

    /** Where a sign is, told by the FAULT that it makes. */
    private static int placeOf(int[] five, int had) {
        QuarrelBridge x = new QuarrelBridge();
        x.feed(BLANKS, BLANKS, BLANKS, BLANKS, BLANKS);
        x.end(had);
        x.feed(five[0], five[1], five[2], five[3], five[4]);
        x.bridge();
        return x.fault(1);
    }

    private static void feedBytes() {
        Edges.of(2, "Twenty bytes come behind the TAPE, four of each number, the highest first");
        for (int k = 0; k < 20; k++) {
            for (int sign : new int[] {';', 255, 128, 0}) {
                int[] five = {BLANKS, BLANKS, BLANKS, BLANKS, BLANKS};
                int shift = 24 - 8 * (k % 4);
                five[k / 4] = BLANKS & ~(255 << shift) | sign << shift;
                Edges.is("byte " + k + " is " + sign, placeOf(five, 0), k);
                Edges.is("byte " + k + " behind 7 is " + sign, placeOf(five, 7), 7 + k);
            }
        }
        Edges.is("all -1", placeOf(new int[] {-1, -1, -1, -1, -1}, 20), 20);
    }

    private static void feedFull() {
        QuarrelBridge x = new QuarrelBridge();
        Edges.of(2, "how many it has");
        for (int i = 1; i <= 40; i++) Edges.is("feed " + i, x.feed(BLANKS, BLANKS, BLANKS, BLANKS, BLANKS), 20 * i);
        Edges.of(2, "NONE, and none come, if it would have more than 800");
        Edges.is("feed 41", x.feed(-1, -1, -1, -1, -1), -1);
        Edges.is("bytes", x.count(7), 800);
        for (int n : new int[] {799, 790, 781}) {
            Edges.is("end", x.end(n), n);
            Edges.is("feed behind " + n, x.feed(-1, -1, -1, -1, -1), -1);
            Edges.is("bytes", x.count(7), n);
        }
        Edges.is("blanks alone", x.bridge(), 0);
        for (int i = 1; i <= 40; i++) x.feed(BLANKS, BLANKS, BLANKS, BLANKS, BLANKS);
        x.end(780);
        Edges.is("feed behind 780", x.feed(BLANKS, BLANKS, BLANKS, BLANKS, 0x2020203b), 800);
        Edges.is("its last byte", x.bridge(), -4);
        Edges.is("its place", x.fault(1), 799);
    }

    private static void ends() {
        QuarrelBridge x = new QuarrelBridge();
        Edges.of(3, "The TAPE has its first n bytes alone: n");
        Edges.is("0 of none", x.end(0), 0);
        Texts.feed(x, "bridge days 12");
        Edges.is("all", x.end(14), 14);
        Edges.is("one less", x.end(13), 13);
        Edges.is("bytes", x.count(7), 13);
        x.bridge();
        Edges.is("what is cut is not read", x.fault(0) * 100 + x.fault(1), 113);
        Texts.feed(x, "bridge days");
        Edges.is("a word is cut", x.end(10), 10);
        x.bridge();
        Edges.is("it is another one", x.fault(1), 7);
        Texts.feed(x, "bridges");
        x.end(6);
        x.bridge();
        Edges.is("what is left is the word", x.fault(1), 6);
        Texts.feed(x, "bridge  days");
        Edges.is("cut", x.end(7), 7);
        Texts.feed(x, ";");
        x.bridge();
        Edges.is("others come behind", x.fault(1), 7);
        Texts.feed(x, B);
        Edges.is("to nothing", x.end(0), 0);
        Edges.is("nothing", x.bridge(), 0);
        Edges.of(3, "NONE, and nothing happens, if it has not so many, or n is below 0");
        QuarrelBridge y = new QuarrelBridge();
        Edges.is("1 of none", y.end(1), -1);
        Edges.is("-1 of none", y.end(-1), -1);
        Texts.feed(y, B);
        int[] wrong = {46, 47, 800, 801, Edges.HIGH, -1, -45, Edges.LOW, 65536 + 45};
        for (int n : wrong) Edges.is("end " + n, y.end(n), -1);
        Edges.is("bytes", y.count(7), 45);
        y.end(44);
        Edges.is("what was cut is gone", y.end(45), -1);
        Texts.feed(y, ";");
        Edges.is("the text", y.bridge(), 1);
    }

    private static void bridgeOfTape() {
        QuarrelBridge x = new QuarrelBridge();
        Edges.of(4, "The TAPE (empty then) is the BRIDGE (in place of another), nothing done: how many LINES");
        Texts.feed(x, B + D + C);
        Edges.is("three", x.bridge(), 3);
        Edges.is("empty then", x.count(7), 0);
        x.does(0, 0);
        x.does(1, 0);
        Texts.feed(x, B + D);
        Edges.is("two", x.bridge(), 2);
        Edges.is("LINES", x.count(6), 2);
        Edges.is("no CART is left", x.cart(0, 0), -2);
        Edges.is("no acts", x.count(5), 0);
        Edges.all("nothing done", -1, x.done(0), x.done(1));
        Edges.is("nothing to take back", x.undo(), -5);
        Edges.of(4, "(0: there is none then)");
        x.does(0, 0);
        Edges.is("of an empty TAPE", x.bridge(), 0);
        Edges.all("none", -2, x.width(0), x.narrow(), x.undo(), x.done(0));
        Edges.all("counts", 0, x.count(0), x.count(1), x.count(2), x.count(3), x.count(4), x.count(5), x.count(6), x.count(7));
        Edges.is("no FAULT", x.fault(0), 0);
        Texts.feed(x, B);
        x.bridge();
        Texts.feed(x, " \n\n ");
        Edges.is("of blanks", x.bridge(), 0);
        Edges.is("none", x.count(0), 0);
    }

    /** All is asked of a great BRIDGE first, then of a small one: nothing of the first is left. */
    private static void bridgeInPlace() {
        Edges.of(4, "is the BRIDGE (in place of another)");
        QuarrelBridge x = Edges.on(EdgeDays.MOST);
        for (int round = 0; round < 2; round++) {
            Edges.all("of the great one", 5994, x.best(), x.pays(), x.line(), x.load(60), x.toll(0));
            Edges.row("most", x::most, 60, 60, 60, 60, 60, 60);
            Edges.row("soonest", x::soonest, 0, 0, 0, 0, 0, 0);
            Edges.all("of the great one", 15625, x.often(0), x.often(5));
            Edges.all("of the great one", 0, x.hold(0), x.hold(60), x.cheap(63), x.queue());
            Edges.is("sets", x.sets(), 64);
            Texts.feed(x, Edges.bridge(2, 3, 3, 1, 0) + Edges.deed(0, 4, -1, -1) + Edges.cart(0, 2, 1, 9, 7) + Edges.cart(0, 3, 1, 9, 9)
                    + Edges.cart(0, 5, 0, 9, 9));
            Edges.is("bridge", x.bridge(), 5);
            // 3, 2; or 2, 1 or 3, 1: CART 0 passes on DAY 1 if nothing is done.
            Edges.all("of the small one", 7, x.best(), x.pays(), x.line(), x.toll(1));
            Edges.row("most", x::most, 3, 2, -2);
            Edges.row("soonest", x::soonest, 1, -1, -1, -2);
            Edges.row("often", x::often, 1, 0, 0, -2);
            Edges.row("hold", x::hold, 0, 0, 0, -1);
            Edges.row("cheap", x::cheap, 0, 0, -1, -1, -1, -1, -1, -1, -2);
            Edges.row("lacks", x::lacks, 0, 1, 2, -2);
            Edges.row("queues", x::queues, -1, -1, -1);
            Edges.is("sets", x.sets(), 2);
            Edges.is("ways", x.ways(), 1);
            Edges.is("widest", x.widest(), 2);
            Edges.is("queue", x.queue(), -1);
            Texts.feed(x, EdgeDays.MOST);
            Edges.is("bridge", x.bridge(), 11);
        }
        QuarrelBridge y = Edges.on(EdgeDays.BARE);
        Edges.is("the one PLAN keeps no CART", y.ways(), 1);
        Texts.feed(y, EdgeDays.BARE + Edges.cart(0, 1, 0, 0, 0));
        Edges.is("bridge", y.bridge(), 2);
        Edges.is("the one PLAN keeps a CART for nothing", y.ways(), 1);
    }

    private static void bridgeOfFullTape() {
        Edges.of(4, "how many LINES");
        String most = B + D + D + D + D + C + C + C + C + C + C;
        good(most, 11);
        good(" ".repeat(800 - most.length()) + most, 11);
        good(most + "\n".repeat(800 - most.length()), 11);
        good("bridge days " + "0".repeat(800 - 45) + "2 feels 5 feels 6 cools 1 odds 3;", 1);
        bad(" ".repeat(756) + B.substring(0, 44), 1, 800);
        bad("z".repeat(800), 1, 0);
        bad("9".repeat(800), 1, 0);
        bad(";".repeat(800), 1, 0);
        bad("bridge days " + "9".repeat(788), 2, 12);
    }

    private static void bridgeRefused() {
        QuarrelBridge x = Texts.told(B + D + C);
        x.rate(0, 7);
        x.does(1, 0);
        x.image(2);
        x.row(1, 0, 1);
        Edges.of(4, "-4: a FAULT (all stays)");
        String[] wrong = {"bridge days 4 feels 1 feels 1 cools 2 odds 9;deed", "x", ";", B + B, B + D + D + D + D + D};
        for (String text : wrong) {
            Texts.feed(x, text);
            Edges.is("bridge of '" + text + "'", x.bridge(), -4);
            long[] counts = {2, 1, 3, 1, 1, 1, 3, 0, 1};
            Edges.row("count", x::count, counts);
            Edges.all("what was told", 7, x.cart(0, 4));
            Edges.row("done", x::done, -1, 0);
            Edges.row("WIDTH", x::width, 5, 3);
        }
        Edges.is("back", x.back(2), 0);
        Edges.is("undo", x.undo(), 0);
    }

    private static void faults() {
        QuarrelBridge x = new QuarrelBridge();
        Edges.of(5, "NONE for another what, and ahead of any (what 1)");
        Edges.is("ahead of any, what 0", x.fault(0), 0);
        Edges.is("ahead of any, what 1", x.fault(1), -1);
        Edges.none("ahead of any, fault", x::fault, -1, 2);
        Texts.feed(x, B + "cart on 2");
        x.bridge();
        Edges.none("fault", x::fault, -1, 2);
        Edges.of(5, "Of the latest bridge(), what 0: its FAULT, 0 without, 1: its place (NONE without).");
        Edges.row("fault", x::fault, 2, 53);
        Texts.feed(x, "q");
        Edges.row("a fed TAPE is none yet", x::fault, 2, 53);
        x.bridge();
        Edges.row("of another, at place 0", x::fault, 1, 0);
        Texts.feed(x, B);
        x.bridge();
        Edges.row("without", x::fault, 0, -1);
        Texts.feed(x, B + D + D + D + D + D);
        x.bridge();
        x.image(0);
        x.back(0);
        Edges.row("images aside", x::fault, 3, 181);
        x.bridge();
        Edges.row("of nothing", x::fault, 0, -1);
    }

    private static void lines() {
        Edges.of(Edges.TERMS, "BRIDGE: {LINE ;}");
        good("", 0);
        good(B, 1);
        bad(B.substring(0, 44), 1, 44);
        bad(B + ";", 1, 45);
        bad(";" + B, 1, 0);
        bad(B + D.substring(0, 33) + C, 1, 78);
        Edges.of(Edges.TERMS, "LINE: bridge days N feels N feels N cools N odds N | deed by N costs N gives|takes N gives|takes N"
                + " | cart on N wide N from N due N pays N");
        everyToken("", B);
        everyToken(B, D);
        everyToken(B, "deed by 0 costs 1 takes 3 gives 2;");
        everyToken(B, C);
        bad(B + "deed by 1 costs 9 gives 3;", 1, 70);
        bad(B + "deed by 1 costs 9 gives 3 takes 2 gives 1;", 1, 79);
        bad("bridge days 2 feels 5 cools 1 odds 3;", 1, 22);
        bad("bridge days 2 feels 5 feels 6 feels 7 cools 1 odds 3;", 1, 30);
        Edges.of(Edges.TERMS, "bridge is the first LINE and no other");
        bad(D, 1, 0);
        bad(C + B, 1, 0);
        bad(B + B, 1, 45);
        bad(B + D + B, 1, 79);
        bad(B + C + C + C + C + C + C + B, 1, 273);
        good(B + C + D, 3);
    }

    /** Each TOKEN of a LINE left out, and one that can't stand there in its place. */
    private static void everyToken(String ahead, String line) {
        good(ahead + line, ahead.isEmpty() ? 1 : 2);
        String[] parts = line.replace(";", " ;").split(" ");
        for (int i = 0; i < parts.length; i++) {
            StringBuilder until = new StringBuilder(ahead);
            StringBuilder behind = new StringBuilder();
            for (int k = 0; k < i; k++) until.append(parts[k]).append(' ');
            for (int k = i + 1; k < parts.length; k++) behind.append(' ').append(parts[k]);
            boolean number = Character.isDigit(parts[i].charAt(0));
            bad(until + (number ? "days" : "1") + behind, 1, until.length());
            bad(until + "?" + behind, 1, until.length());
            if (i > 0) bad(until.toString(), 1, until.length());
            boolean word = Character.isLetter(parts[i].charAt(0));
            if (word) {
                bad(until + parts[i] + "s" + behind, 1, until.length());
                bad(until + parts[i].substring(1) + behind, 1, until.length());
                bad(until + "z" + parts[i].substring(1) + behind, 1, until.length());
                bad(until + parts[i].substring(0, parts[i].length() - 1) + "z" + behind, 1, until.length());
                bad(until + parts[i].toUpperCase() + behind, 1, until.length());
            }
        }
    }

    /** A number at its bounds, one beyond them, and ones that would be good again if they wrapped around. */
    private static void bound(String ahead, int low, int high, String behind, int lines) {
        good(ahead + low + behind, lines);
        good(ahead + high + behind, lines);
        good(ahead + "000" + high + behind, lines);
        bad(ahead + (high + 1) + behind, 2, ahead.length());
        bad(ahead + 9 * (high + 1) + behind, 2, ahead.length());
        if (low > 0) bad(ahead + (low - 1) + behind, 2, ahead.length());
        for (int bits : new int[] {8, 16, 31, 32, 63, 64}) {
            BigInteger around = BigInteger.ONE.shiftLeft(bits).add(BigInteger.valueOf(low));
            if (around.compareTo(BigInteger.valueOf(high)) > 0) bad(ahead + around + behind, 2, ahead.length());
        }
    }

    private static void bridgeBounds() {
        Edges.of(Edges.TERMS, "days 1 .. 6");
        bound("bridge days ", 1, 6, " feels 5 feels 6 cools 1 odds 3;", 1);
        Edges.of(Edges.TERMS, "feels of SIDE 0, then of SIDE 1, 0 .. 60");
        bound("bridge days 2 feels ", 0, 60, " feels 6 cools 1 odds 3;", 1);
        bound("bridge days 2 feels 5 feels ", 0, 60, " cools 1 odds 3;", 1);
        QuarrelBridge x = Edges.on(Edges.bridge(1, 0, 60, 0, 0));
        Edges.is("of SIDE 0", x.feels(0, 0), 0);
        Edges.is("of SIDE 1", x.feels(1, 0), 60);
        Edges.of(Edges.TERMS, "cools 0 .. 9, odds 0 .. 10");
        bound("bridge days 2 feels 5 feels 6 cools ", 0, 9, " odds 3;", 1);
        bound("bridge days 2 feels 5 feels 6 cools 1 odds ", 0, 10, ";", 1);
        QuarrelBridge y = Edges.on(Edges.bridge(6, 0, 0, 9, 10));
        Edges.row("count", y::count, 6, 9, 10);
    }

    private static void deedBounds() {
        Edges.of(Edges.TERMS, "deed: its SIDE 0, 1, costs 0 .. 99, what it gives the feeling of SIDE 0, then SIDE 1, 0 .. 30"
                + " (takes: below 0)");
        bound(B + "deed by ", 0, 1, " costs 9 gives 3 takes 2;", 2);
        bound(B + "deed by 1 costs ", 0, 99, " gives 3 takes 2;", 2);
        for (String word : new String[] {"gives ", "takes "}) {
            bound(B + "deed by 1 costs 9 " + word, 0, 30, " takes 2;", 2);
            bound(B + "deed by 1 costs 9 gives 3 " + word, 0, 30, ";", 2);
        }
        QuarrelBridge x = Edges.on(B, Edges.deed(0, 99, 30, -30), Edges.deed(1, 0, -30, 30), "deed by 0 costs 1 takes 0 takes 0;");
        Edges.row("deed 0", what -> x.deed(0, what), 0, 99, 30, -30);
        Edges.row("deed 1", what -> x.deed(1, what), 1, 0, -30, 30);
        Edges.row("deed 2", what -> x.deed(2, what), 0, 1, 0, 0);
    }

    private static void cartBounds() {
        Edges.of(Edges.TERMS, "cart: its SIDE, wide 1 .. 40, from, due 0 .. 9, pays 0 .. 999");
        bound(B + "cart on ", 0, 1, " wide 4 from 0 due 1 pays 20;", 2);
        bound(B + "cart on 1 wide ", 1, 40, " from 0 due 1 pays 20;", 2);
        bound(B + "cart on 1 wide 4 from ", 0, 9, " due 1 pays 20;", 2);
        bound(B + "cart on 1 wide 4 from 0 due ", 0, 9, " pays 20;", 2);
        bound(B + "cart on 1 wide 4 from 0 due 1 pays ", 0, 999, ";", 2);
        QuarrelBridge x = Edges.on(B, Edges.cart(0, 40, 9, 0, 999), Edges.cart(1, 1, 0, 9, 0));
        Edges.row("cart 0", what -> x.cart(0, what), 0, 40, 9, 0, 999);
        Edges.row("cart 1", what -> x.cart(1, what), 1, 1, 0, 9, 0);
    }

    private static void numbering() {
        Edges.of(Edges.TERMS, "DAYS 0 .. days less 1");
        for (int days = 1; days <= 6; days++) {
            QuarrelBridge x = Edges.on(Edges.bridge(days, 7, 7, 0, 0));
            Edges.is("DAYS", x.count(0), days);
            Edges.is("the last of " + days, x.width(days - 1), 7);
            Edges.none("width of " + days, x::width, -2, days);
        }
        Edges.of(Edges.TERMS, "DEEDS 0 .. 3, CARTS 0 .. 5 are numbered as they stand");
        StringBuilder text = new StringBuilder(B);
        for (int i = 0; i < 6; i++) {
            text.append(Edges.cart(0, 1 + i, 0, 0, 0));
            if (i < 4) text.append(Edges.deed(0, 10 + i, 0, 0));
        }
        QuarrelBridge x = Edges.on(text.toString());
        Edges.row("costs", deed -> x.deed(deed, 1), 10, 11, 12, 13);
        Edges.row("wide", cart -> x.cart(cart, 1), 1, 2, 3, 4, 5, 6);
        Edges.is("DEED 4", x.deed(4, 1), -1000);
        Edges.is("CART 6", x.cart(6, 1), -2);
        Edges.all("how many", 10, x.count(3) + x.count(4));
    }

    private static void tokens() {
        Edges.of(Edges.TERMS, "TOKENS, blanks (32, 10) aside, the longest: words (a .. z), numbers (digits), the sign ; .");
        for (int sign = 0; sign < 256; sign++) {
            String text = "bridge" + (char) sign + B.substring(7);
            if (sign == 32 || sign == 10) {
                good(text, 1);
            } else {
                bad(text, 1, sign >= 'a' && sign <= 'z' ? 0 : 6);
            }
            String number = "bridge days 2" + (char) sign + B.substring(13);
            if (sign >= '0' && sign <= '9') {
                bad(number, 2, 12);
            } else if (sign == 32 || sign == 10) {
                good(number, 1);
            } else {
                bad(number, 1, 13);
            }
            String behind = B + (char) sign;
            if (sign == 32 || sign == 10) good(behind, 1); else bad(behind, 1, 45);
        }
        good("bridge days2feels5feels6cools1odds3;deed by1costs9gives3takes2;", 2);
        good("\n \nbridge\n\ndays  2\nfeels 5 feels 6 cools 1 odds 3 \n ; \n", 1);
        bad("bridgedays 2", 1, 0);
        bad("bridge days 1 2", 1, 14);
        bad("brid ge days 2", 1, 0);
    }

    private static void firstFault() {
        Edges.of(Edges.TERMS, "FAULTS, the first by its place (a TOKEN's first byte; the end's), of one place the least");
        bad(B + "deed by 2 costs 100 $", 2, 53);
        bad(B + "deed $ by 2", 1, 50);
        bad(B + "deed by 1 costs 100 gives 31", 2, 61);
        bad(B + D + D + D + "deed by 7;" + D, 2, 155);
        bad(B + D + D + D + D + "deed by 7", 3, 181);
        bad(B + D + D + D + D + "deed $", 3, 181);
        bad("bridge  999999;", 1, 8);
        bad("   bridge   days   99", 2, 19);
        bad("bridge", 1, 6);
        bad("bridge   ", 1, 9);
        bad("bridge days 2", 1, 13);
        bad("bridge days 2\n", 1, 14);
        bad(B + "deed by 1 costs 9 gives 3 takes 2  ", 1, 80);
    }

    private static void faultOne() {
        Edges.of(Edges.TERMS, "1 a TOKEN that is none, or can't stand there (bridge behind the first LINE, another word ahead of it).");
        bad("?", 1, 0);
        bad(B + "??", 1, 45);
        bad(B + "-1", 1, 45);
        bad("bridge days -1", 1, 12);
        bad("bridge days 2.0", 1, 13);
        bad(B + "bridge", 1, 45);
        bad("deed", 1, 0);
        bad("cart", 1, 0);
        bad("days", 1, 0);
        bad("other bridge", 1, 0);
        bad(B + "other", 1, 45);
        bad(B + "7", 1, 45);
        bad(B + "deed by 1 costs 9 gives 3 deed", 1, 71);
        bad(B + "cart deed", 1, 50);
    }

    private static void faultTwo() {
        Edges.of(Edges.TERMS, "2 a number out of its bounds, not as said.");
        bad("bridge days 0", 2, 12);
        bad("bridge days 7", 2, 12);
        bad("bridge days 00", 2, 12);
        bad("bridge days 0007;", 2, 12);
        bad(B + "cart on 1 wide 0", 2, 60);
        good("bridge days 06 feels 060 feels 00 cools 09 odds 010;", 1);
        // Where no number can stand, none is out of its bounds.
        bad("bridge days 2 7 feels", 1, 14);
        bad("bridge days 2 feels 5 feels 6 cools 1 odds 10 11", 1, 46);
    }

    private static void faultThree() {
        Edges.of(Edges.TERMS, "3 a 5th deed, 7th cart, at its word.");
        String four = B + D + D + D + D;
        good(four, 5);
        bad(four + D, 3, 181);
        bad(four + "\n deed", 3, 183);
        bad(four + "deeds", 1, 181);
        bad(four + "dee", 1, 181);
        String six = B + C + C + C + C + C + C;
        good(six, 7);
        bad(six + C, 3, 273);
        bad(six + "\n cart", 3, 275);
        bad(six + "carts", 1, 273);
        bad(six + D + "cart", 3, 307);
        bad(four + C + "deed", 3, 219);
        good(six + D + D + D + D, 11);
        good(four + C + C + C + C + C + C, 11);
    }
}
