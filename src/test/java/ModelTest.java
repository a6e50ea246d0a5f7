import java.util.Random;

/** Long runs of calls by chance (from fixed seeds), each answer compared with the model's. */
public final class ModelTest {
    private static final int CALLS = 60;
    private final Random random;
    private final Due due;
    private QuarrelBridge x;
    private Model m;
    private int run;
    private int calls;
    private int tape;

    private ModelTest(Random random, Due due) {
        this.random = random;
        this.due = due;
    }

    public static void main(String[] args) {
        int runs = args.length > 0 ? Integer.parseInt(args[0]) : 700;
        long seed = args.length > 1 ? Long.parseLong(args[1]) : 20261118L;
        Due due = new Due("ModelTest");
        ModelTest test = new ModelTest(new Random(seed), due);
        for (int run = 0; run < runs; run++) {
            test.oneRun(run);
        }
        due.close();
    }

    private void oneRun(int number) {
        run = number;
        x = new QuarrelBridge();
        m = new Model();
        calls = 0;
        tape = 0;
        if (random.nextInt(8) == 0) {
            someCalls(20);
        }
        // A round has some 180 calls, and what an object answers behind its 512th is free.
        for (int round = 0; round < 4 && calls < 330; round++) {
            tell();
            askAll();
            someCalls(CALLS);
        }
    }

    private void tell() {
        Model.State s = random.nextInt(12) == 0 ? null : someState();
        calls += 45;
        if (s != null) {
            if (x.count(7) > 0) {
                x.end(0);
            }
            Texts.feed(x, s.text());
            check("bridge", x.bridge(), 1 + s.deeds.size() + s.carts.size());
            check("fault 0", x.fault(0), 0);
            m.s = s;
        } else if (random.nextBoolean()) {
            x.end(0);
            check("bridge of nothing", x.bridge(), 0);
            m.s = null;
        } else {
            x.end(0);
            Texts.feed(x, "bridge days 3 feels 1 feels 2 cools 3 odds 4; deed by 0 costs 1 gives 2 gives 31;");
            check("bridge with a fault", x.bridge(), -4);
        }
        tape = 0;
    }

    private Model.State someState() {
        Model.State s = new Model.State();
        s.days = 1 + random.nextInt(random.nextInt(3) == 0 ? 6 : 4);
        int wide = random.nextInt(3) == 0 ? 61 : 20;
        s.begin[0] = random.nextInt(wide);
        s.begin[1] = random.nextInt(wide);
        s.cools = random.nextInt(random.nextBoolean() ? 10 : 4);
        s.odds = random.nextInt(11);
        int deeds = random.nextInt(5);
        for (int i = 0; i < deeds; i++) {
            s.deeds.add(new int[] {random.nextInt(2), random.nextInt(random.nextBoolean() ? 100 : 6), gift(), gift()});
        }
        int carts = random.nextInt(7);
        for (int i = 0; i < carts; i++) {
            s.carts.add(new int[] {random.nextInt(2), 1 + random.nextInt(random.nextBoolean() ? 40 : 12),
                random.nextInt(random.nextInt(4) == 0 ? 10 : s.days), random.nextInt(random.nextInt(3) == 0 ? 10 : s.days + 1),
                random.nextInt(random.nextBoolean() ? 1000 : 20)});
        }
        return s;
    }

    private int gift() {
        return random.nextInt(random.nextBoolean() ? 31 : 8) * (random.nextInt(3) == 0 ? -1 : 1);
    }

    private void check(String call, long got, long want) {
        due.is("run " + run + ": " + call + " on " + (m.s == null ? "none" : m.s.text()), got, want);
    }

    /** A number about what there is: mostly one such, at times one too low or too high. */
    private int about(int low, int high) {
        int r = random.nextInt(16);
        if (r == 0) return low - 1;
        if (r == 1) return high + 1;
        if (r == 2) return random.nextBoolean() ? Integer.MIN_VALUE : Integer.MAX_VALUE;
        return high < low ? low : low + random.nextInt(high - low + 1);
    }

    private int days() { return m.s == null ? 0 : m.s.days; }
    private int deeds() { return m.s == null ? 0 : m.s.deeds.size(); }
    private int carts() { return m.s == null ? 0 : m.s.carts.size(); }
    private int aDay() { return about(0, days() - 1); }
    private int aDeed() { return about(0, deeds() - 1); }
    private int aCart() { return about(0, carts() - 1); }
    private int aSlot() { return about(0, 3); }
    private int aSet() { return about(0, (1 << carts()) - 1); }

    private void askAll() {
        for (int i = 0; i < 66; i++) {
            ask(i);
        }
    }

    private void someCalls(int many) {
        for (int i = 0; i < many; i++) {
            if (random.nextBoolean()) {
                change();
            } else {
                ask(random.nextInt(66));
            }
        }
    }

    private void change() {
        calls++;
        int a, b, c, d, e;
        switch (random.nextInt(12)) {
            case 0: case 1: case 2:
                a = aDay(); b = random.nextInt(4) == 0 ? -1 : aDeed();
                check("does " + a + " " + b, x.does(a, b), m.does(a, b)); break;
            case 3: if (random.nextBoolean()) check("undo", x.undo(), m.undo()); break;
            case 4: if (random.nextInt(4) == 0) check("anew", x.anew(), m.anew()); break;
            case 5: a = aCart(); b = about(0, 999); check("rate " + a + " " + b, x.rate(a, b), m.rate(a, b)); break;
            case 6: a = about(0, 2); check("image " + a, x.image(a), m.image(a)); break;
            case 7: a = about(0, 2); if (random.nextInt(3) == 0) check("back " + a, x.back(a), m.back(a)); break;
            case 8:
                a = aSlot(); b = about(0, 3); c = random.nextBoolean() ? about(0, 5) : about(0, 60);
                check("row " + a + " " + b + " " + c, x.row(a, b, c), m.row(a, b, c)); break;
            case 9: {
                a = aSlot(); b = about(0, 8);
                long v = random.nextInt(4) == 0 ? random.nextLong() : random.nextInt(300) - 20;
                check("write " + a + " " + b + " " + v, x.write(a, b, v), m.write(a, b, v)); break;
            }
            case 10:
                a = aSlot(); b = about(0, 5); c = aSlot(); d = about(0, 5); e = about(0, 5);
                check("paste " + a + " " + b + " " + c + " " + d + " " + e, x.paste(a, b, c, d, e), m.paste(a, b, c, d, e)); break;
            default: if (random.nextBoolean()) tellWidths(); else tellShares(); break;
        }
    }

    /** A row of WIDTHS that come of some slight, so that something fits. */
    private void tellWidths() {
        if (m.s == null) return;
        int[] row = m.doneRow();
        if (deeds() > 0) row[random.nextInt(days())] = random.nextInt(deeds());
        Model.Way w = m.go(m.asLists(row), random.nextBoolean() ? m.s.cools : random.nextInt(10), 0, m.numbers());
        int slot = random.nextInt(4);
        int many = random.nextInt(4);
        int width = random.nextInt(4);
        check("row", x.row(slot, width, 2 * many), m.row(slot, width, 2 * many));
        for (int i = 0; i < many; i++) {
            int day = random.nextInt(days());
            check("write", x.write(slot, 2 * i, day), m.write(slot, 2 * i, day));
            check("write", x.write(slot, 2 * i + 1, w.width[day]), m.write(slot, 2 * i + 1, w.width[day]));
        }
        check("fits", x.fits(slot), m.fits(slot));
        check("slights", x.slights(slot), m.slights(slot));
        check("slight", x.slight(slot), m.slight(slot));
        check("ask", x.ask(slot), m.ask(slot));
        check("leaves", x.leaves(slot), m.leaves(slot));
        check("cools", x.cools(slot), m.cools(slot));
        check("cool", x.cool(slot), m.cool(slot));
        calls += 8 + 2 * many;
    }

    /** Shares that sum up to CHEAP of all at times. */
    private void tellShares() {
        if (m.s == null) return;
        int slot = random.nextInt(4);
        int n = carts();
        check("row", x.row(slot, 2, n), m.row(slot, 2, n));
        int all = m.cheap(m.all());
        for (int i = 0; i < n; i++) {
            int share = all < 0 ? random.nextInt(40) : i == n - 1 ? all : random.nextInt(all + 1);
            check("write", x.write(slot, i, share), m.write(slot, i, share));
            all -= Math.min(all, share);
        }
        check("fair", x.fair(slot), m.fair(slot));
        check("leave", x.leave(slot), m.leave(slot));
        calls += 3 + n;
    }

    private void ask(int which) {
        calls++;
        if (which < 24) askDays(which);
        else if (which < 44) askPlans(which);
        else askRest(which);
    }

    private void askDays(int which) {
        int a, b;
        switch (which) {
            case 0: a = aDeed(); b = about(0, 3); check("deed " + a + " " + b, x.deed(a, b), m.deed(a, b)); break;
            case 1: a = aCart(); b = about(0, 4); check("cart " + a + " " + b, x.cart(a, b), m.cart(a, b)); break;
            case 2: a = about(0, 1); b = aDay(); check("feels " + a + " " + b, x.feels(a, b), m.feels(a, b)); break;
            case 3: a = aDay(); check("width " + a, x.width(a), m.width(a)); break;
            case 4: check("narrow", x.narrow(), m.narrow()); break;
            case 5: check("shut", x.shut(), m.shut()); break;
            case 6: a = aCart(); check("passes " + a, x.passes(a), m.passes(a)); break;
            case 7: a = aDay(); check("over " + a, x.over(a), m.over(a)); break;
            case 8: a = aDay(); check("waits " + a, x.waits(a), m.waits(a)); break;
            case 9: a = aDay(); check("room " + a, x.room(a), m.room(a)); break;
            case 10: check("stuck", x.stuck(), m.stuck()); break;
            case 11: check("lost", x.lost(), m.lost()); break;
            case 12: check("kept", x.kept(), m.kept()); break;
            case 13: check("pays", x.pays(), m.pays()); break;
            case 14: check("costs", x.costs(), m.costs()); break;
            case 15: check("peak", x.peak(), m.peak()); break;
            case 16: a = aCart(); check("lacks " + a, x.lacks(a), m.lacks(a)); break;
            case 17: check("crowd", x.crowd(), m.crowd()); break;
            case 18: check("late", x.late(), m.late()); break;
            case 19: check("delay", x.delay(), m.delay()); break;
            case 20: a = aDay(); check("toll " + a, x.toll(a), m.toll(a)); break;
            case 21: a = aDay(); check("gap " + a, x.gap(a), m.gap(a)); break;
            case 22: a = aDay(); check("kind " + a, x.kind(a), m.kind(a)); break;
            default: a = aDay(); check("done " + a, x.done(a), m.done(a)); break;
        }
    }

    private void askPlans(int which) {
        int a, b;
        switch (which) {
            case 24: check("best", x.best(), m.best()); break;
            case 25: a = aDay(); check("plan " + a, x.plan(a), m.plan(a)); break;
            case 26: check("ways", x.ways(), m.ways()); break;
            case 27: a = aDeed(); check("alone " + a, x.alone(a), m.alone(a)); break;
            case 28: a = aCart(); check("value " + a, x.value(a), m.value(a)); break;
            case 29: check("sets", x.sets(), m.sets()); break;
            case 30: a = aCart(); check("often " + a, x.often(a), m.often(a)); break;
            case 31: a = aSet(); check("cheap " + a, x.cheap(a), m.cheap(a)); break;
            case 32: a = aSet(); b = aDay(); check("cheaply " + a + " " + b, x.cheaply(a, b), m.cheaply(a, b)); break;
            case 33: a = aCart(); check("soonest " + a, x.soonest(a), m.soonest(a)); break;
            case 34: a = about(0, random.nextBoolean() ? 60 : 15); check("hold " + a, x.hold(a), m.hold(a)); break;
            case 35: check("widest", x.widest(), m.widest()); break;
            case 36: a = aDay(); check("most " + a, x.most(a), m.most(a)); break;
            case 37: a = about(0, 99); check("abreast " + a, x.abreast(a), m.abreast(a)); break;
            case 38: a = about(0, 99); check("load " + a, x.load(a), m.load(a)); break;
            case 39: a = about(0, 99); check("loads " + a, x.loads(a), m.loads(a)); break;
            case 40: check("queue", x.queue(), m.queue()); break;
            case 41: a = aCart(); check("queues " + a, x.queues(a), m.queues(a)); break;
            case 42: check("line", x.line(), m.line()); break;
            default: a = about(0, 8); check("count " + a, x.count(a), m.count(a, tape)); break;
        }
    }

    private void askRest(int which) {
        int a, b, c, d;
        switch (which) {
            case 44: a = aSlot(); check("fits " + a, x.fits(a), m.fits(a)); break;
            case 45: a = aSlot(); check("slights " + a, x.slights(a), m.slights(a)); break;
            case 46: a = aSlot(); check("slight " + a, x.slight(a), m.slight(a)); break;
            case 47: a = aSlot(); check("ask " + a, x.ask(a), m.ask(a)); break;
            case 48: a = aSlot(); check("leaves " + a, x.leaves(a), m.leaves(a)); break;
            case 49: a = aSlot(); check("cools " + a, x.cools(a), m.cools(a)); break;
            case 50: a = aSlot(); check("cool " + a, x.cool(a), m.cool(a)); break;
            case 51: case 52: a = aDay(); check("rests " + a, x.rests(a), m.rests(a)); break;
            case 53: case 54: a = aDay(); check("rest " + a, x.rest(a), m.rest(a)); break;
            case 55: case 56:
                a = about(0, 1); b = about(-1, deeds() - 1); c = about(-1, deeds() - 1); d = aDay();
                check("has " + a + " " + b + " " + c + " " + d, x.has(a, b, c, d), m.has(a, b, c, d)); break;
            case 57: a = aSlot(); check("fair " + a, x.fair(a), m.fair(a)); break;
            case 58: a = aSlot(); check("leave " + a, x.leave(a), m.leave(a)); break;
            case 59: case 60:
                a = aDay(); b = about(0, random.nextBoolean() ? 60 : 15); c = about(0, 1);
                check("chance " + a + " " + b + " " + c, x.chance(a, b, c), m.chance(a, b, c)); break;
            case 61: a = about(0, random.nextBoolean() ? 60 : 15); check("when " + a, x.when(a), m.when(a)); break;
            case 62: case 63:
                a = about(0, 2000000000); b = about(0, 2);
                check("drawn " + a + " " + b, x.drawn(a, b), m.drawn(a, b)); break;
            default:
                a = random.nextInt(4) == 0 ? 2000000000 : about(0, 2000000000); b = about(1, 20); c = aCart();
                check("luck " + a + " " + b + " " + c, x.luck(a, b, c), m.luck(a, b, c)); break;
        }
    }
}
