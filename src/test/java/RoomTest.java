import java.lang.management.ManagementFactory;

/** All calls of a run live in one room: an object is small, and its calls make nothing. */
public final class RoomTest {
    private static final String WIDEST = "bridge days 6 feels 30 feels 30 cools 3 odds 4;"
            + "deed by 0 costs 4 gives 3 gives 5;deed by 1 costs 1 takes 20 gives 2;"
            + "deed by 0 costs 9 gives 8 gives 8;deed by 1 costs 7 gives 9 gives 6;"
            + "cart on 0 wide 14 from 0 due 3 pays 10;cart on 1 wide 15 from 0 due 4 pays 7;"
            + "cart on 0 wide 13 from 1 due 4 pays 5;cart on 1 wide 17 from 1 due 5 pays 100;"
            + "cart on 0 wide 12 from 2 due 5 pays 50;cart on 1 wide 21 from 2 due 5 pays 70;";

    public static void main(String[] args) {
        Due due = new Due("RoomTest");
        com.sun.management.ThreadMXBean bean = (com.sun.management.ThreadMXBean) ManagementFactory.getThreadMXBean();
        long id = Thread.currentThread().getId();
        round(Texts.told(WIDEST));
        long before = bean.getThreadAllocatedBytes(id);
        QuarrelBridge x = new QuarrelBridge();
        long made = bean.getThreadAllocatedBytes(id) - before;
        due.is("a new object has 32 KiB at most, not " + made, made <= 32768 ? 1 : 0, 1);
        Texts.feed(x, WIDEST);
        x.bridge();
        before = bean.getThreadAllocatedBytes(id);
        long sum = 0;
        for (int i = 0; i < 6; i++) {
            sum += round(x);
        }
        long used = bean.getThreadAllocatedBytes(id) - before;
        due.is("calls make nothing, not " + used + " bytes", used <= 4096 ? 1 : 0, 1);
        due.is("answers are summed", sum != 0 ? 1 : 0, 1);
        due.close();
    }

    private static long round(QuarrelBridge x) {
        long sum = x.width(0) + x.narrow() + x.shut() + x.passes(1) + x.over(1) + x.waits(1) + x.room(1) + x.stuck();
        sum += x.lost() + x.kept() + x.pays() + x.costs() + x.best() + x.plan(1) + x.ways() + x.peak() + x.lacks(1);
        sum += x.crowd() + x.late() + x.delay() + x.toll(1) + x.gap(1) + x.kind(1) + x.alone(1) + x.value(1) + x.sets();
        sum += x.often(1) + x.cheap(5) + x.cheaply(5, 1) + x.soonest(1) + x.hold(9) + x.widest() + x.most(1) + x.abreast(40);
        sum += x.load(40) + x.loads(40) + x.queue() + x.queues(1) + x.line() + x.row(0, 0, 2) + x.write(0, 1, 30) + x.fits(0);
        sum += x.slights(0) + x.slight(0) + x.ask(0) + x.leaves(0) + x.cools(0) + x.cool(0) + x.rests(1) + x.rest(1);
        sum += x.has(0, 0, 1, 1) + x.row(1, 1, 6) + x.fair(1) + x.leave(1) + x.chance(5, 9, 0) + x.when(9) + x.drawn(5, 2);
        sum += x.luck(5, 20, 1) + x.does(0, 1) + x.undo() + x.rate(0, 9) + x.image(0) + x.back(0) + x.does(1, 1) + x.anew();
        return sum + x.row(2, 1, 60) + x.paste(1, 0, 2, 0, 6) + x.count(5) + x.done(1) + x.deed(0, 1) + x.cart(0, 1) + x.feels(0, 1);
    }
}
