/** Promises 2 to 5: the TAPE, what a text tells, and its first FAULT. */
public final class FaultTest {
    private static final String BRIDGE = "bridge days 2 feels 5 feels 6 cools 1 odds 3;";
    private static final String DEED = "deed by 1 costs 9 gives 3 takes 2;";
    private static final String CART = "cart on 1 wide 4 from 0 due 1 pays 20;";
    private static final Due DUE = new Due("FaultTest");

    public static void main(String[] args) {
        feeding();
        ending();
        newObject();
        goodTexts();
        tokens();
        bounds();
        tooMany();
        ends();
        faultKeepsAll();
        DUE.close();
    }

    private static void feeding() {
        QuarrelBridge x = new QuarrelBridge();
        for (int i = 1; i <= 40; i++) {
            DUE.is("feed " + i, x.feed(i, -i, 0, 1, 2), 20 * i);
        }
        DUE.is("feed beyond 800", x.feed(1, 2, 3, 4, 5), -1);
        DUE.is("bytes then", x.count(7), 800);
        DUE.is("end 781", x.end(781), 781);
        DUE.is("feed to 801", x.feed(1, 2, 3, 4, 5), -1);
        DUE.is("bytes still", x.count(7), 781);
        DUE.is("end 780", x.end(780), 780);
        DUE.is("feed to 800", x.feed(1, 2, 3, 4, 5), 800);
    }

    private static void ending() {
        QuarrelBridge x = new QuarrelBridge();
        DUE.is("end 0 of none", x.end(0), 0);
        DUE.is("end 1 of none", x.end(1), -1);
        x.feed(0, 0, 0, 0, 0);
        DUE.is("end 21", x.end(21), -1);
        DUE.is("end -1", x.end(-1), -1);
        DUE.is("end least", x.end(Integer.MIN_VALUE), -1);
        DUE.is("bytes after refusals", x.count(7), 20);
        DUE.is("end 20", x.end(20), 20);
        DUE.is("end 7", x.end(7), 7);
        DUE.is("end 8 of 7", x.end(8), -1);
        DUE.is("bytes", x.count(7), 7);
    }

    private static void newObject() {
        QuarrelBridge x = new QuarrelBridge();
        DUE.is("fault 0, new", x.fault(0), 0);
        DUE.is("fault 1, new", x.fault(1), -1);
        DUE.is("fault 2, new", x.fault(2), -1);
        DUE.is("fault -1, new", x.fault(-1), -1);
        for (int what = 0; what <= 8; what++) {
            DUE.is("count " + what + ", new", x.count(what), 0);
        }
    }

    private static void good(String text, int lines) {
        QuarrelBridge x = new QuarrelBridge();
        Texts.feed(x, text);
        DUE.is("bridge of '" + text + "'", x.bridge(), lines);
        DUE.is("fault of '" + text + "'", x.fault(0), 0);
        DUE.is("place of '" + text + "'", x.fault(1), -1);
        DUE.is("TAPE behind '" + text + "'", x.count(7), 0);
        DUE.is("LINES of '" + text + "'", x.count(6), lines);
    }

    private static void bad(String text, int fault, int place) {
        QuarrelBridge x = new QuarrelBridge();
        Texts.feed(x, text);
        DUE.is("bridge of '" + text + "'", x.bridge(), -4);
        DUE.is("fault of '" + text + "'", x.fault(0), fault);
        DUE.is("place of '" + text + "'", x.fault(1), place);
        DUE.is("TAPE behind '" + text + "'", x.count(7), 0);
        DUE.is("LINES behind '" + text + "'", x.count(6), 0);
    }

    private static void goodTexts() {
        good("", 0);
        good("  \n \n", 0);
        good(BRIDGE, 1);
        good("\n" + BRIDGE + " \n", 1);
        good("bridge days6feels60feels0cools9odds10;", 1);
        good("bridge\ndays 01 feels 0000000000000000000000060 feels 00 cools 0 odds 0 ;", 1);
        good(BRIDGE + DEED + DEED + DEED + DEED, 5);
        good(BRIDGE + CART + DEED + CART + CART + CART + CART + CART, 8);
        good(BRIDGE + "deed by 0 costs 0 takes 30 gives 30;deed by 1 costs 99 gives 0 takes 0;", 3);
        good(BRIDGE + "cart on 0 wide 1 from 0 due 0 pays 0;cart on 1 wide 40 from 9 due 9 pays 999;", 3);
        QuarrelBridge x = Texts.told(BRIDGE + CART + "deed by 0 costs 7 takes 30 gives 12;" + DEED);
        DUE.is("deed 0 takes", x.deed(0, 2), -30);
        DUE.is("deed 0 gives", x.deed(0, 3), 12);
        DUE.is("deed 1 side", x.deed(1, 0), 1);
        DUE.is("deed 1 costs", x.deed(1, 1), 9);
        DUE.is("cart 0 pays", x.cart(0, 4), 20);
        DUE.is("count cools", x.count(1), 1);
        DUE.is("count odds", x.count(2), 3);
    }

    private static void tokens() {
        bad(";", 1, 0);
        bad("  ;", 1, 2);
        bad("deed", 1, 0);
        bad(" cart on 0", 1, 1);
        bad("7", 1, 0);
        bad("Bridge", 1, 0);
        bad("bridges days 2", 1, 0);
        bad("bridg days 2", 1, 0);
        bad("fridge days 2", 1, 0);
        bad("bridgz days 2", 1, 0);
        bad("bridge day 2", 1, 7);
        bad("bridge 2", 1, 7);
        bad("bridge days feels", 1, 12);
        bad("bridge days -1", 1, 12);
        bad("bridge days\t2", 1, 11);
        bad("bridge days 2\r", 1, 13);
        bad("bridge days 2 feels 5 feels 6 cools 1 odds 3 4;", 1, 45);
        bad("bridge days 2 feels 5 feels 6 cools 1 odds 3x;", 1, 44);
        bad("bridge days 2 feels 5 cools", 1, 22);
        bad(BRIDGE + ";", 1, 45);
        bad(BRIDGE + BRIDGE, 1, 45);
        bad(BRIDGE + "carts", 1, 45);
        bad(BRIDGE + "3", 1, 45);
        bad(BRIDGE + "\u00e9", 1, 45);
        bad(BRIDGE + "\u0000", 1, 45);
        bad(BRIDGE + "deed on 1", 1, 50);
        bad(BRIDGE + "deed by 1 costs 9 has 3", 1, 63);
        bad(BRIDGE + "deed by 1 costs 9 gives 3 costs 2", 1, 71);
        bad(BRIDGE + "cart by 1", 1, 50);
        bad(BRIDGE + "cart on 1 wide 4 due 0", 1, 62);
        bad(BRIDGE + DEED + "#" + DEED, 1, 79);
    }

    private static void bounds() {
        bad("bridge days 0", 2, 12);
        bad("bridge days 7", 2, 12);
        bad("bridge days 99999999999999999999999", 2, 12);
        bad("bridge days 4294967298 feels", 2, 12);
        bad("bridge days 2 feels 61", 2, 20);
        bad("bridge days 2 feels 60 feels 61", 2, 29);
        bad("bridge days 2 feels 5 feels 6 cools 10", 2, 36);
        bad("bridge days 2 feels 5 feels 6 cools 1 odds 11", 2, 43);
        bad(BRIDGE + "deed by 2", 2, 53);
        bad(BRIDGE + "deed by 1 costs 100", 2, 61);
        bad(BRIDGE + "deed by 1 costs 9 gives 31", 2, 69);
        bad(BRIDGE + "deed by 1 costs 9 takes 31", 2, 69);
        bad(BRIDGE + "deed by 1 costs 9 gives 3 takes 31", 2, 77);
        bad(BRIDGE + "cart on 2", 2, 53);
        bad(BRIDGE + "cart on 1 wide 0", 2, 60);
        bad(BRIDGE + "cart on 1 wide 41", 2, 60);
        bad(BRIDGE + "cart on 1 wide 4 from 10", 2, 67);
        bad(BRIDGE + "cart on 1 wide 4 from 0 due 10", 2, 73);
        bad(BRIDGE + "cart on 1 wide 4 from 0 due 1 pays 1000", 2, 80);
        bad(BRIDGE + "deed by 2 costs 100 $", 2, 53);
    }

    private static void tooMany() {
        String deeds = BRIDGE + DEED + DEED + DEED + DEED;
        bad(deeds + DEED, 3, 181);
        bad(deeds + "  deed", 3, 183);
        bad(deeds + "deeds", 1, 181);
        String carts = BRIDGE + CART + CART + CART + CART + CART + CART;
        bad(carts + CART, 3, 273);
        bad(carts + DEED + "cart", 3, 307);
        bad(carts + BRIDGE, 1, 273);
    }

    private static void ends() {
        bad("bridge", 1, 6);
        bad("bridge  \n", 1, 9);
        bad("bridge days", 1, 11);
        bad("bridge days 2 feels 5 feels 6 cools 1 odds 3", 1, 44);
        bad("bridge days 2 feels 5 feels 6 cools 1 odds 3  ", 1, 46);
        bad(BRIDGE + "deed by 1 costs 9 gives 3 takes 2", 1, 78);
        bad(BRIDGE + "cart", 1, 49);
    }

    private static void faultKeepsAll() {
        QuarrelBridge x = Texts.told(BRIDGE + DEED + CART);
        x.does(1, 0);
        Texts.feed(x, BRIDGE + "deed by 5");
        DUE.is("bridge with a fault", x.bridge(), -4);
        DUE.is("its fault", x.fault(0), 2);
        DUE.is("fault -1", x.fault(-1), -1);
        DUE.is("fault 2", x.fault(2), -1);
        DUE.is("acts stay", x.count(5), 1);
        DUE.is("deed stays", x.done(1), 0);
        DUE.is("lines stay", x.count(6), 3);
        DUE.is("TAPE is empty", x.count(7), 0);
        x.image(0);
        Texts.feed(x, "bridge days 5 feels 1 feels 1 cools 0 odds 0;");
        DUE.is("another one", x.bridge(), 1);
        DUE.is("nothing done", x.count(5), 0);
        DUE.is("nothing done on 1", x.done(1), -1);
        DUE.is("no deed", x.deed(0, 0), -1000);
        DUE.is("days", x.count(0), 5);
        DUE.is("none with an empty TAPE", x.bridge(), 0);
        DUE.is("no day", x.width(0), -2);
        DUE.is("no days", x.count(0), 0);
        DUE.is("fault of it", x.fault(1), -1);
        Texts.feed(x, "x");
        DUE.is("a fault ahead of back", x.bridge(), -4);
        DUE.is("back", x.back(0), 0);
        DUE.is("fault is of the latest bridge", x.fault(0), 1);
        DUE.is("acts are back", x.count(5), 1);
    }
}
