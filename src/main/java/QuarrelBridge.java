/**
 * A bridge that is as wide as the lesser of two feelings. The promises that the
 * comments name by number are those of ../shared/DOC.md.
 */
public final class QuarrelBridge {
    public static final int NONE = -1;

    private static final int NO_SUCH = -2;
    private static final int NO_LENGTH = -3;
    private static final int FAULTY = -4;
    private static final int NO_ACT = -5;
    private static final int NOTHING = -6;
    private static final int BEYOND = -7;
    private static final int UNLIKE = -8;
    private static final int NO_FEELING = -1000;
    private static final int NO_GAIN = -1000000;

    private static final int MAX_DAYS = 6;
    private static final int MAX_DEEDS = 4;
    private static final int MAX_CARTS = 6;
    private static final int MAX_SETS = 64;
    private static final int MAX_FEELING = 60;
    private static final int MAX_PAY = 999;
    private static final int MAX_ACTS = 40;
    private static final int MAX_TAPE = 800;
    private static final int MAX_ROW = 60;
    private static final int MAX_ABREAST = 99;
    private static final int MAX_COOLS = 9;
    private static final int MAX_ODDS = 10;
    private static final int MAX_COST = 99;
    private static final int MAX_GIFT = 30;
    private static final int MAX_WIDE = 40;
    private static final int MAX_DATE = 9;
    private static final int MAX_SEED = 2000000000;
    private static final int MAX_LUCK = 20;
    private static final int SLOTS = 4;
    private static final int IMAGES = 3;
    private static final int WIDTHS = 4;
    private static final int TEMPER = 5;

    /** What stands at a place of a DEED's row. */
    private static final int DEED_SIDE = 0;
    private static final int DEED_COSTS = 1;
    private static final int DEED_GIVES = 2;
    private static final int DEED_FIELDS = 4;

    /** What stands at a place of a CART's row. */
    private static final int CART_SIDE = 0;
    private static final int CART_WIDE = 1;
    private static final int CART_FROM = 2;
    private static final int CART_DUE = 3;
    private static final int CART_PAYS = 4;
    private static final int CART_FIELDS = 5;

    private final Reader reader = new Reader();
    private final Bridge told = new Bridge();
    private final Bridge draft = new Bridge();
    private final Bridge[] images = new Bridge[IMAGES];
    private final boolean[] imaged = new boolean[IMAGES];
    private final Slots slots = new Slots();
    private final Crossing crossing = new Crossing();
    private final Plans plans = new Plans();
    private final Orders orders = new Orders();
    private final Slights slighted = new Slights();
    private final Treaty treaty = new Treaty();

    public QuarrelBridge() {
        for (int k = 0; k < IMAGES; k++) {
            images[k] = new Bridge();
        }
    }

    // The TAPE and its text (2 to 5).

    public int feed(int a, int b, int c, int d, int e) {
        if (reader.tape.size + 20 > MAX_TAPE) {
            return NONE;
        }
        reader.tape.add(a);
        reader.tape.add(b);
        reader.tape.add(c);
        reader.tape.add(d);
        reader.tape.add(e);
        return reader.tape.size;
    }

    public int end(int n) {
        if (n < 0 || n > reader.tape.size) {
            return NONE;
        }
        reader.tape.size = n;
        return n;
    }

    public int bridge() {
        reader.readAll(draft);
        reader.tape.size = 0;
        if (reader.faultKind != 0) {
            return FAULTY;
        }
        told.become(draft);
        plans.forget();
        return told.lines;
    }

    public int fault(int what) {
        if (what == 0) {
            return reader.faultKind;
        }
        return what == 1 ? reader.faultPlace : NONE;
    }

    // What was told (6, 7).

    public int deed(int deed, int what) {
        if (!told.hasDeed(deed) || what < 0 || what >= DEED_FIELDS) {
            return NO_FEELING;
        }
        return told.deedRows[deed][what];
    }

    public int cart(int cart, int what) {
        if (!told.hasCart(cart) || what < 0 || what >= CART_FIELDS) {
            return NO_SUCH;
        }
        return told.cartRows[cart][what];
    }

    // Days as they go, deeds done as now (8 to 20).

    public int feels(int side, int day) {
        if (!isSide(side) || !told.hasDay(day)) {
            return NO_FEELING;
        }
        return asNow().feelings[side][day];
    }

    public int width(int day) {
        return told.hasDay(day) ? asNow().widthOn(day) : NO_SUCH;
    }

    public int narrow() {
        if (!told.stands()) {
            return NO_SUCH;
        }
        Crossing now = asNow();
        int found = 0;
        for (int day = 1; day < told.days; day++) {
            if (now.widthOn(day) < now.widthOn(found)) {
                found = day;
            }
        }
        return found;
    }

    public int shut() {
        if (!told.stands()) {
            return NO_SUCH;
        }
        Crossing now = asNow();
        int bits = 0;
        for (int day = 0; day < told.days; day++) {
            if (now.widthOn(day) == 0) {
                bits |= 1 << day;
            }
        }
        return bits;
    }

    public int passes(int cart) {
        return told.hasCart(cart) ? asNow().dayOf(told, cart) : NO_SUCH;
    }

    public int over(int day) {
        return told.hasDay(day) ? asNow().passedOn(day) : NO_SUCH;
    }

    public int waits(int day) {
        return told.hasDay(day) ? asNow().waitingOn(told, day) : NO_SUCH;
    }

    public int room(int day) {
        return told.hasDay(day) ? asNow().left[day] : NO_SUCH;
    }

    public int stuck() {
        if (!told.stands()) {
            return NO_SUCH;
        }
        Crossing now = asNow();
        for (int day = 0; day < told.days; day++) {
            for (int cart = 0; cart < told.carts; cart++) {
                if (told.cartRows[cart][CART_FROM] == day && !holds(now.passedOn(day), cart)) {
                    return cart;
                }
            }
        }
        return NONE;
    }

    public int lost() {
        return told.stands() ? told.allCarts() & ~asNow().passedBits(told) : NO_SUCH;
    }

    public int kept() {
        return told.stands() ? asNow().keptBits(told) : NO_SUCH;
    }

    public int pays() {
        return told.stands() ? told.payOf(asNow().keptBits(told)) : NO_SUCH;
    }

    public int costs() {
        return told.stands() ? told.costOfAll(told.doneOn) : NO_SUCH;
    }

    // Plans that bring most (21 to 23).

    public int best() {
        return told.stands() ? weighed().bestGain(told, NONE) : NO_GAIN;
    }

    public int plan(int day) {
        if (!told.hasDay(day)) {
            return NO_SUCH;
        }
        Plans table = weighed();
        return table.deedOn(table.bestFirst(told), day);
    }

    public int ways() {
        return told.stands() ? weighed().bestWays(told) : NO_SUCH;
    }

    // More of the days as they go (24 to 31).

    public int peak() {
        if (!told.stands()) {
            return NO_SUCH;
        }
        Crossing now = asNow();
        int found = 0;
        for (int day = 1; day < told.days; day++) {
            if (now.widthOn(day) > now.widthOn(found)) {
                found = day;
            }
        }
        return found;
    }

    public int lacks(int cart) {
        if (!told.hasCart(cart)) {
            return NO_SUCH;
        }
        Crossing now = asNow();
        int[] row = told.cartRows[cart];
        int greatest = 0;
        for (int day = 0; day < told.days; day++) {
            if (day >= row[CART_FROM] && day <= row[CART_DUE]) {
                greatest = Math.max(greatest, now.widthOn(day));
            }
        }
        return Math.max(0, row[CART_WIDE] - greatest);
    }

    public int crowd() {
        if (!told.stands()) {
            return NO_SUCH;
        }
        Crossing now = asNow();
        int found = NONE;
        int most = 0;
        for (int day = 0; day < told.days; day++) {
            int many = Integer.bitCount(now.passedOn(day));
            if (many > most) {
                most = many;
                found = day;
            }
        }
        return found;
    }

    public int late() {
        if (!told.stands()) {
            return NO_SUCH;
        }
        Crossing now = asNow();
        return now.passedBits(told) & ~now.keptBits(told);
    }

    public int delay() {
        if (!told.stands()) {
            return NO_SUCH;
        }
        Crossing now = asNow();
        int sum = 0;
        for (int cart = 0; cart < told.carts; cart++) {
            int day = now.dayOf(told, cart);
            if (day != NONE) {
                sum += day - told.cartRows[cart][CART_FROM];
            }
        }
        return sum;
    }

    public int toll(int day) {
        return told.hasDay(day) ? told.payOf(asNow().passedOn(day)) : NO_SUCH;
    }

    public int gap(int day) {
        if (!told.hasDay(day)) {
            return NO_SUCH;
        }
        Crossing now = asNow();
        return Math.abs(now.feelings[0][day] - now.feelings[1][day]);
    }

    public int kind(int day) {
        if (!told.hasDay(day)) {
            return NO_SUCH;
        }
        int found = NONE;
        int greatest = asNow().widthOn(day);
        for (int deed = 0; deed < told.deeds; deed++) {
            crossing.choice[day] = deed;
            crossing.feelThrough(told, day);
            if (crossing.widthOn(day) > greatest) {
                greatest = crossing.widthOn(day);
                found = deed;
            }
        }
        return found;
    }

    // Plans again (32 to 41).

    public int alone(int deed) {
        if (!told.hasDeed(deed)) {
            return NO_GAIN;
        }
        crossing.asDone(told);
        int greatest = NO_GAIN;
        for (int bits = 0; bits < 1 << told.days; bits++) {
            for (int day = 0; day < told.days; day++) {
                crossing.choice[day] = holds(bits, day) ? deed : NONE;
            }
            crossing.walk(told);
            int gain = told.payOf(crossing.keptBits(told)) - told.costOfAll(crossing.choice);
            greatest = Math.max(greatest, gain);
        }
        return greatest;
    }

    public int value(int cart) {
        if (!told.hasCart(cart)) {
            return NO_SUCH;
        }
        Plans table = weighed();
        return table.bestGain(told, NONE) - table.bestGain(told, cart);
    }

    public int sets() {
        if (!told.stands()) {
            return NO_SUCH;
        }
        Plans table = weighed();
        int many = 0;
        for (int set = 0; set <= told.allCarts(); set++) {
            if (table.cheapCost(set) != NONE) {
                many++;
            }
        }
        return many;
    }

    public int often(int cart) {
        return told.hasCart(cart) ? weighed().plansKeeping(cart) : NO_SUCH;
    }

    public int cheap(int carts) {
        return told.hasSet(carts) ? weighed().cheapCost(carts) : NO_SUCH;
    }

    public int cheaply(int carts, int day) {
        if (!told.hasSet(carts) || !told.hasDay(day)) {
            return NO_SUCH;
        }
        Plans table = weighed();
        int first = table.cheapFirst(carts);
        return first == NONE ? NONE : table.deedOn(first, day);
    }

    public int soonest(int cart) {
        return told.hasCart(cart) ? weighed().firstDay[cart] : NO_SUCH;
    }

    public int hold(int n) {
        if (!told.stands() || !isFeeling(n)) {
            return NO_SUCH;
        }
        return weighed().holdCost(n);
    }

    public int widest() {
        return told.stands() ? weighed().widestLeast() : NO_SUCH;
    }

    public int most(int day) {
        return told.hasDay(day) ? weighed().mostOn[day] : NO_SUCH;
    }

    // CARTS at once, whenever they come (42 to 44).

    public int abreast(int width) {
        if (!told.stands() || !isAbreast(width)) {
            return NO_SUCH;
        }
        int many = 0;
        for (int set = 0; set <= told.allCarts(); set++) {
            if (told.wideOf(set) <= width) {
                many = Math.max(many, Integer.bitCount(set));
            }
        }
        return many;
    }

    public int load(int width) {
        if (!told.stands() || !isAbreast(width)) {
            return NO_SUCH;
        }
        return told.payOf(richestSet(width));
    }

    public int loads(int width) {
        if (!told.stands() || !isAbreast(width)) {
            return NO_SUCH;
        }
        return richestSet(width);
    }

    // Orders of passing (45 to 47).

    public int queue() {
        return told.stands() ? ordered().soonestEnd : NO_SUCH;
    }

    public int queues(int i) {
        if (!told.stands()) {
            return NO_SUCH;
        }
        if (i < 0 || i >= told.carts) {
            return NONE;
        }
        Orders all = ordered();
        return all.soonestEnd == NONE ? NONE : all.firstOrder[i];
    }

    public int line() {
        return told.stands() ? ordered().mostPaid : NO_SUCH;
    }

    // Who slighted whom, and how much it cools (48 to 54).

    public int fits(int slot) {
        int wrong = widthsWrong(slot);
        return wrong != 0 ? wrong : suspected(slot).many;
    }

    public int slights(int slot) {
        int wrong = widthsWrong(slot);
        return wrong != 0 ? wrong : suspected(slot).deedBits;
    }

    public int slight(int slot) {
        int wrong = widthsWrong(slot);
        return wrong != 0 ? wrong : suspected(slot).firstPair();
    }

    public int ask(int slot) {
        int wrong = widthsWrong(slot);
        return wrong != 0 ? wrong : suspected(slot).askedDay(told);
    }

    public int leaves(int slot) {
        int wrong = widthsWrong(slot);
        return wrong != 0 ? wrong : suspected(slot).leftAtWorst(told);
    }

    public int cools(int slot) {
        int wrong = widthsWrong(slot);
        return wrong != 0 ? wrong : Integer.bitCount(coolings(slot));
    }

    public int cool(int slot) {
        int wrong = widthsWrong(slot);
        return wrong != 0 ? wrong : leastBit(coolings(slot));
    }

    // Treaties and shares (55 to 59).

    public int rests(int day) {
        if (!told.hasDay(day)) {
            return NO_SUCH;
        }
        treaty.tryPairs(told, crossing, day);
        return treaty.many;
    }

    public int rest(int day) {
        if (!told.hasDay(day)) {
            return NO_SUCH;
        }
        treaty.tryPairs(told, crossing, day);
        return treaty.firstPair;
    }

    public int has(int side, int one, int other, int day) {
        if (!isSide(side) || !told.hasDay(day)) {
            return NO_GAIN;
        }
        if (!told.mayChoose(0, one) || !told.mayChoose(1, other)) {
            return NO_GAIN;
        }
        treaty.agree(told, crossing, day, one, other);
        return treaty.gainOf(told, crossing, side, side == 0 ? one : other);
    }

    public int fair(int slot) {
        int wrong = sharesWrong(slot);
        if (wrong != 0) {
            return wrong;
        }
        Plans table = weighed();
        int all = told.allCarts();
        boolean even = slots.sharesOf(slot, all) == table.cheapCost(all);
        return even && leavingSet(table, slot) == NONE ? 1 : 0;
    }

    public int leave(int slot) {
        int wrong = sharesWrong(slot);
        return wrong != 0 ? wrong : leavingSet(weighed(), slot);
    }

    // Tempers by chance (60 to 63).

    public long chance(int day, int n, int what) {
        if (!told.hasDay(day) || !isFeeling(n) || what < 0 || what > 1) {
            return NO_SUCH;
        }
        int above = Tempers.weightOf(told, crossing, day, n);
        int below = tenTo(day + 1);
        int shared = commonDivisor(above, below);
        if (shared == 0) {
            return NO_SUCH;
        }
        return what == 0 ? above / shared : below / shared;
    }

    public int when(int n) {
        if (!told.stands() || !isFeeling(n)) {
            return NO_SUCH;
        }
        int found = NONE;
        int greatest = 0;
        for (int day = 0; day < told.days; day++) {
            int weight = Tempers.weightOf(told, crossing, day, n) * tenTo(told.days - 1 - day);
            if (weight > greatest) {
                greatest = weight;
                found = day;
            }
        }
        return found;
    }

    public int drawn(int seed, int what) {
        if (!told.stands() || !isSeed(seed) || what < 0 || what > 2) {
            return NO_SUCH;
        }
        Tempers.drawDays(told, crossing, seed);
        if (what == 0) {
            return crossing.temperBits;
        }
        return what == 1 ? crossing.widthOn(told.days - 1) : crossing.passedBits(told);
    }

    public int luck(int seed, int n, int cart) {
        if (!told.hasCart(cart) || !isSeed(seed) || n < 1 || n > MAX_LUCK) {
            return NO_SUCH;
        }
        int many = 0;
        for (int i = 0; i < n; i++) {
            Tempers.drawDays(told, crossing, (long) seed + i);
            if (holds(crossing.keptBits(told), cart)) {
                many++;
            }
        }
        return many;
    }

    // Acts (64 to 68).

    public int does(int day, int deed) {
        if (!told.hasDay(day) || deed != NONE && !told.hasDeed(deed)) {
            return NO_SUCH;
        }
        if (told.acts >= MAX_ACTS) {
            return NO_ACT;
        }
        return told.act(day, deed);
    }

    public int undo() {
        if (!told.stands()) {
            return NO_SUCH;
        }
        if (told.acts <= 0) {
            return NO_ACT;
        }
        told.takeBack();
        return told.acts;
    }

    public int anew() {
        if (!told.stands()) {
            return NO_SUCH;
        }
        int many = told.acts;
        told.takeAllBack();
        return many;
    }

    public int done(int day) {
        return told.hasDay(day) ? told.doneOn[day] : NO_SUCH;
    }

    public int rate(int cart, int n) {
        if (!told.hasCart(cart) || !isPay(n)) {
            return NO_SUCH;
        }
        if (told.acts > 0) {
            return NO_ACT;
        }
        int was = told.cartRows[cart][CART_PAYS];
        told.cartRows[cart][CART_PAYS] = n;
        return was;
    }

    // Counts and images (69 to 71).

    public int count(int what) {
        switch (what) {
            case 0: return told.days;
            case 1: return told.cooling;
            case 2: return told.odds;
            case 3: return told.deeds;
            case 4: return told.carts;
            case 5: return told.acts;
            case 6: return told.lines;
            case 7: return reader.tape.size;
            case 8: return slots.filled();
            default: return NONE;
        }
    }

    public int image(int k) {
        if (k < 0 || k >= IMAGES) {
            return NO_SUCH;
        }
        images[k].become(told);
        imaged[k] = true;
        return 0;
    }

    public int back(int k) {
        if (k < 0 || k >= IMAGES) {
            return NO_SUCH;
        }
        if (!imaged[k]) {
            return NOTHING;
        }
        told.become(images[k]);
        plans.forget();
        return 0;
    }

    // SLOTS (72 to 74).

    public int row(int slot, int width, int n) {
        if (!isSlot(slot) || width < 0 || width >= WIDTHS || n > MAX_ROW) {
            return NO_SUCH;
        }
        if (n < 0) {
            return NO_LENGTH;
        }
        slots.lay(slot, width, n);
        return 0;
    }

    public int write(int slot, int i, long v) {
        if (!isSlot(slot)) {
            return NO_SUCH;
        }
        if (!slots.hasRow(slot)) {
            return NOTHING;
        }
        if (i < 0 || i >= slots.sizes[slot]) {
            return BEYOND;
        }
        slots.rows[slot][i] = cut(v, slots.widths[slot]);
        return 0;
    }

    public int paste(int slot, int i, int to, int k, int n) {
        if (!isSlot(slot) || !isSlot(to)) {
            return NO_SUCH;
        }
        if (!slots.hasRow(slot) || !slots.hasRow(to)) {
            return NOTHING;
        }
        if (slots.widths[slot] != slots.widths[to]) {
            return UNLIKE;
        }
        if (!slots.reaches(slot, i, n) || !slots.reaches(to, k, n)) {
            return BEYOND;
        }
        System.arraycopy(slots.rows[slot], i, slots.rows[to], k, n);
        return 0;
    }

    // What several promises share.

    private Crossing asNow() {
        crossing.asDone(told);
        crossing.walk(told);
        return crossing;
    }

    /** The table of all PLANS, which outlives acts and rates: neither is in it. */
    private Plans weighed() {
        plans.weigh(told, crossing);
        return plans;
    }

    private Orders ordered() {
        orders.tryAll(told, asNow());
        return orders;
    }

    private Slights suspected(int slot) {
        slighted.search(told, crossing, slots, slot);
        return slighted;
    }

    /** The least set of CARTS that pays most of those no wider than a WIDTH. */
    private int richestSet(int width) {
        int found = 0;
        for (int set = 1; set <= told.allCarts(); set++) {
            if (told.wideOf(set) <= width && told.payOf(set) > told.payOf(found)) {
                found = set;
            }
        }
        return found;
    }

    /** Which of 0 .. 9, as cools, make WIDTHS as a SLOT's row tells, as bits. */
    private int coolings(int slot) {
        crossing.asDone(told);
        int bits = 0;
        for (int by = 0; by <= MAX_COOLS; by++) {
            crossing.cooling = by;
            crossing.feelThrough(told, told.days - 1);
            if (slots.tells(slot, crossing)) {
                bits |= 1 << by;
            }
        }
        return bits;
    }

    /** The least set of CARTS that pays more than its CHEAP; NONE without. */
    private int leavingSet(Plans table, int slot) {
        for (int set = 0; set <= told.allCarts(); set++) {
            int least = table.cheapCost(set);
            if (least != NONE && slots.sharesOf(slot, set) > least) {
                return set;
            }
        }
        return NONE;
    }

    /** What is wrong with a SLOT that is to tell WIDTHS; 0: nothing. */
    private int widthsWrong(int slot) {
        int wrong = slotWrong(slot);
        if (wrong != 0) {
            return wrong;
        }
        int size = slots.sizes[slot];
        if (size % 2 != 0) {
            return NO_SUCH;
        }
        for (int i = 0; i + 1 < size; i += 2) {
            long day = slots.rows[slot][i];
            long width = slots.rows[slot][i + 1];
            if (day < 0 || day >= told.days || width < 0 || width > MAX_FEELING) {
                return NO_SUCH;
            }
        }
        return 0;
    }

    /** What is wrong with a SLOT that is to tell SHARES; 0: nothing. */
    private int sharesWrong(int slot) {
        int wrong = slotWrong(slot);
        if (wrong != 0) {
            return wrong;
        }
        int size = slots.sizes[slot];
        if (size != told.carts) {
            return NO_SUCH;
        }
        for (int i = 0; i < size; i++) {
            long share = slots.rows[slot][i];
            if (share < 0 || share > MAX_PAY) {
                return NO_SUCH;
            }
        }
        return 0;
    }

    private int slotWrong(int slot) {
        if (!isSlot(slot) || !told.stands()) {
            return NO_SUCH;
        }
        return slots.hasRow(slot) ? 0 : NOTHING;
    }

    private static boolean isSlot(int slot) {
        return slot >= 0 && slot < SLOTS;
    }

    private static boolean isSide(int side) {
        return side == 0 || side == 1;
    }

    private static boolean isFeeling(int n) {
        return n >= 0 && n <= MAX_FEELING;
    }

    private static boolean isPay(int n) {
        return n >= 0 && n <= MAX_PAY;
    }

    private static boolean isAbreast(int width) {
        return width >= 0 && width <= MAX_ABREAST;
    }

    private static boolean isSeed(int seed) {
        return seed >= 0 && seed <= MAX_SEED;
    }

    private static boolean holds(int bits, int one) {
        return (bits >> one & 1) != 0;
    }

    /** The number of the lowest bit; NONE if there is none. */
    private static int leastBit(int bits) {
        for (int one = 0; one < 32; one++) {
            if (holds(bits, one)) {
                return one;
            }
        }
        return NONE;
    }

    /** A feeling within its bounds. */
    private static int bounded(int feeling) {
        if (feeling < 0) {
            return 0;
        }
        return feeling > MAX_FEELING ? MAX_FEELING : feeling;
    }

    private static long cut(long v, int width) {
        switch (width) {
            case 0: return (byte) v;
            case 1: return (short) v;
            case 2: return (int) v;
            default: return v;
        }
    }

    private static int tenTo(int n) {
        int power = 1;
        for (int i = 0; i < n && i < MAX_DAYS; i++) {
            power *= 10;
        }
        return power;
    }

    private static int commonDivisor(int a, int b) {
        int one = a;
        int other = b;
        for (int i = 0; i < 64 && other != 0; i++) {
            int rest = one % other;
            one = other;
            other = rest;
        }
        return one;
    }

    /** The bytes that were fed. */
    private static final class Tape {
        final byte[] bytes = new byte[MAX_TAPE];
        int size;

        void add(int number) {
            for (int shift = 24; shift >= 0; shift -= 8) {
                if (size < MAX_TAPE) {
                    bytes[size] = (byte) (number >> shift);
                    size++;
                }
            }
        }
    }

    /** What is told of a BRIDGE, and what was done on it since. */
    private static final class Bridge {
        int lines;
        int days;
        int cooling;
        int odds;
        int deeds;
        int carts;
        int acts;
        final int[] begins = new int[2];
        final int[][] deedRows = new int[MAX_DEEDS][DEED_FIELDS];
        final int[][] cartRows = new int[MAX_CARTS][CART_FIELDS];
        final int[] doneOn = new int[MAX_DAYS];
        final int[] actDays = new int[MAX_ACTS];
        final int[] actWas = new int[MAX_ACTS];

        /** No BRIDGE. With no DAYS, DEEDS and CARTS every look-up then fails of itself. */
        void clear() {
            lines = 0;
            days = 0;
            cooling = 0;
            odds = 0;
            deeds = 0;
            carts = 0;
            takeAllBack();
        }

        void become(Bridge other) {
            lines = other.lines;
            days = other.days;
            cooling = other.cooling;
            odds = other.odds;
            deeds = other.deeds;
            carts = other.carts;
            acts = other.acts;
            copyRow(other.begins, begins);
            for (int deed = 0; deed < MAX_DEEDS; deed++) {
                copyRow(other.deedRows[deed], deedRows[deed]);
            }
            for (int cart = 0; cart < MAX_CARTS; cart++) {
                copyRow(other.cartRows[cart], cartRows[cart]);
            }
            copyRow(other.doneOn, doneOn);
            copyRow(other.actDays, actDays);
            copyRow(other.actWas, actWas);
        }

        private static void copyRow(int[] from, int[] to) {
            for (int i = 0; i < from.length && i < to.length; i++) {
                to[i] = from[i];
            }
        }

        boolean stands() {
            return lines > 0;
        }

        boolean hasDay(int day) {
            return day >= 0 && day < days;
        }

        boolean hasDeed(int deed) {
            return deed >= 0 && deed < deeds;
        }

        boolean hasCart(int cart) {
            return cart >= 0 && cart < carts;
        }

        boolean hasSet(int set) {
            return stands() && set >= 0 && set <= allCarts();
        }

        boolean mayChoose(int side, int deed) {
            return deed == NONE || hasDeed(deed) && deedRows[deed][DEED_SIDE] == side;
        }

        int allCarts() {
            return (1 << carts) - 1;
        }

        int payOf(int set) {
            return sumOf(set, CART_PAYS);
        }

        int wideOf(int set) {
            return sumOf(set, CART_WIDE);
        }

        private int sumOf(int set, int field) {
            int sum = 0;
            for (int cart = 0; cart < carts; cart++) {
                if (holds(set, cart)) {
                    sum += cartRows[cart][field];
                }
            }
            return sum;
        }

        int costOf(int deed) {
            return hasDeed(deed) ? deedRows[deed][DEED_COSTS] : 0;
        }

        int costOfAll(int[] choice) {
            int sum = 0;
            for (int day = 0; day < days && day < choice.length; day++) {
                sum += costOf(choice[day]);
            }
            return sum;
        }

        int act(int day, int deed) {
            if (!hasDay(day) || acts >= MAX_ACTS) {
                return NONE;
            }
            int was = doneOn[day];
            actDays[acts] = day;
            actWas[acts] = was;
            acts++;
            doneOn[day] = deed;
            return was;
        }

        void takeBack() {
            if (acts > 0) {
                acts--;
                doneOn[actDays[acts]] = actWas[acts];
            }
        }

        void takeAllBack() {
            acts = 0;
            for (int day = 0; day < MAX_DAYS; day++) {
                doneOn[day] = NONE;
            }
        }
    }

    /** Reads the TAPE as a BRIDGE, TOKEN by TOKEN, up to its first FAULT. */
    private static final class Reader {
        private static final int END = 0;
        private static final int WORD = 1;
        private static final int NUMBER = 2;
        private static final int SIGN = 3;
        private static final int STRANGE = 4;
        /** Above all bounds; longer numbers stay there. */
        private static final int TOO_MUCH = 100000;

        int faultKind;
        int faultPlace = NONE;
        final Tape tape = new Tape();
        private int token;
        private int start;
        private int stop;
        private int amount;

        void readAll(Bridge into) {
            faultKind = 0;
            faultPlace = NONE;
            stop = 0;
            into.clear();
            next();
            // Every LINE takes a byte at least, so there are never more than bytes.
            for (int line = 0; line <= MAX_TAPE && token != END && faultKind == 0; line++) {
                if (line == 0) {
                    readBridge(into);
                } else if (isWord("deed")) {
                    readDeed(into);
                } else {
                    readCart(into);
                }
                skipSign();
                into.lines++;
            }
        }

        private void readBridge(Bridge into) {
            skipWord("bridge");
            into.days = named("days", 1, MAX_DAYS);
            into.begins[0] = named("feels", 0, MAX_FEELING);
            into.begins[1] = named("feels", 0, MAX_FEELING);
            into.cooling = named("cools", 0, MAX_COOLS);
            into.odds = named("odds", 0, MAX_ODDS);
        }

        private void readDeed(Bridge into) {
            if (into.deeds >= MAX_DEEDS) {
                fail(3);
                return;
            }
            int[] deed = into.deedRows[into.deeds];
            skipWord("deed");
            deed[DEED_SIDE] = named("by", 0, 1);
            deed[DEED_COSTS] = named("costs", 0, MAX_COST);
            for (int side = 0; side < 2; side++) {
                boolean takes = isWord("takes");
                int gift = named(takes ? "takes" : "gives", 0, MAX_GIFT);
                deed[DEED_GIVES + side] = takes ? -gift : gift;
            }
            into.deeds++;
        }

        private void readCart(Bridge into) {
            if (isWord("cart") && into.carts >= MAX_CARTS) {
                fail(3);
            }
            skipWord("cart");
            if (faultKind != 0) {
                return;
            }
            int[] cart = into.cartRows[into.carts];
            cart[CART_SIDE] = named("on", 0, 1);
            cart[CART_WIDE] = named("wide", 1, MAX_WIDE);
            cart[CART_FROM] = named("from", 0, MAX_DATE);
            cart[CART_DUE] = named("due", 0, MAX_DATE);
            cart[CART_PAYS] = named("pays", 0, MAX_PAY);
            into.carts++;
        }

        /** The number behind a word; 0 behind a FAULT, when it no longer counts. */
        private int named(String word, int low, int high) {
            if (!isWord(word)) {
                fail(1);
            }
            next();
            if (token != NUMBER) {
                fail(1);
            } else if (amount < low || amount > high) {
                fail(2);
            }
            int found = amount;
            next();
            return faultKind == 0 ? found : 0;
        }

        private void skipWord(String word) {
            if (!isWord(word)) {
                fail(1);
            }
            next();
        }

        private void skipSign() {
            if (token != SIGN) {
                fail(1);
            }
            next();
        }

        private void fail(int fault) {
            if (faultKind == 0) {
                faultKind = fault;
                faultPlace = start;
            }
        }

        private boolean isWord(String word) {
            if (token != WORD || stop - start != word.length()) {
                return false;
            }
            for (int i = 0; i < word.length(); i++) {
                if (byteAt(start + i) != word.charAt(i)) {
                    return false;
                }
            }
            return true;
        }

        /** Goes to the next TOKEN, but not beyond a FAULT. */
        private void next() {
            if (faultKind != 0) {
                return;
            }
            start = stop;
            while (start < tape.size && isBlank(byteAt(start))) {
                start++;
            }
            token = start < tape.size ? tokenOf(byteAt(start)) : END;
            stop = start;
            amount = 0;
            if (token == WORD) {
                while (stop < tape.size && isLetter(byteAt(stop))) {
                    stop++;
                }
            } else if (token == NUMBER) {
                while (stop < tape.size && isDigit(byteAt(stop))) {
                    amount = Math.min(TOO_MUCH, amount * 10 + byteAt(stop) - '0');
                    stop++;
                }
            } else if (token != END) {
                stop = start + 1;
            }
        }

        private static int tokenOf(int sign) {
            if (isLetter(sign)) {
                return WORD;
            }
            if (isDigit(sign)) {
                return NUMBER;
            }
            return sign == ';' ? SIGN : STRANGE;
        }

        private int byteAt(int place) {
            return place >= 0 && place < MAX_TAPE ? tape.bytes[place] : 0;
        }

        private static boolean isBlank(int sign) {
            return sign == 32 || sign == 10;
        }

        private static boolean isLetter(int sign) {
            return sign >= 'a' && sign <= 'z';
        }

        private static boolean isDigit(int sign) {
            return sign >= '0' && sign <= '9';
        }
    }

    /** DAYS gone through once, by what is chosen, how it cools, tempers and an order. */
    private static final class Crossing {
        final int[] choice = new int[MAX_DAYS];
        final int[] order = new int[MAX_CARTS];
        int secondDay;
        int second;
        int cooling;
        int temperBits;
        final int[][] feelings = new int[2][MAX_DAYS];
        final int[] left = new int[MAX_DAYS];
        /** CARTS that passed ahead of a DAY, and of these the ones no later than due. */
        private final int[] gone = new int[MAX_DAYS + 1];
        private final int[] inTime = new int[MAX_DAYS + 1];

        void asDone(Bridge b) {
            for (int day = 0; day < MAX_DAYS; day++) {
                choice[day] = b.doneOn[day];
            }
            for (int cart = 0; cart < MAX_CARTS; cart++) {
                order[cart] = cart;
            }
            secondDay = NONE;
            second = NONE;
            cooling = b.cooling;
            temperBits = 0;
        }

        void walk(Bridge b) {
            for (int day = 0; day < b.days; day++) {
                feelDay(b, day);
                passDay(b, day);
            }
        }

        void feelThrough(Bridge b, int last) {
            for (int day = 0; day <= last && day < MAX_DAYS; day++) {
                feelDay(b, day);
            }
        }

        void passAll(Bridge b) {
            for (int day = 0; day < b.days; day++) {
                passDay(b, day);
            }
        }

        void feelDay(Bridge b, int day) {
            for (int side = 0; side < 2; side++) {
                int feeling = b.begins[side];
                if (day > 0) {
                    feeling = Math.max(0, feelings[side][day - 1] - cooling);
                }
                feeling = moved(b, feeling, choice[day], side);
                if (day == secondDay) {
                    feeling = moved(b, feeling, second, side);
                }
                if (holds(temperBits, day)) {
                    feeling = Math.max(0, feeling - TEMPER);
                }
                feelings[side][day] = feeling;
            }
        }

        private static int moved(Bridge b, int feeling, int deed, int side) {
            return b.hasDeed(deed) ? bounded(feeling + b.deedRows[deed][DEED_GIVES + side]) : feeling;
        }

        void passDay(Bridge b, int day) {
            int away = gone[day];
            int kept = inTime[day];
            int space = widthOn(day);
            for (int i = 0; i < b.carts; i++) {
                int[] row = b.cartRows[order[i]];
                int bit = 1 << order[i];
                if ((away & bit) == 0 && row[CART_FROM] <= day && row[CART_WIDE] <= space) {
                    space -= row[CART_WIDE];
                    away |= bit;
                    if (day <= row[CART_DUE]) {
                        kept |= bit;
                    }
                }
            }
            left[day] = space;
            gone[day + 1] = away;
            inTime[day + 1] = kept;
        }

        int widthOn(int day) {
            return Math.min(feelings[0][day], feelings[1][day]);
        }

        int passedOn(int day) {
            return gone[day + 1] & ~gone[day];
        }

        int passedBits(Bridge b) {
            return gone[b.days];
        }

        int keptBits(Bridge b) {
            return inTime[b.days];
        }

        int waitingOn(Bridge b, int day) {
            int bits = 0;
            for (int cart = 0; cart < b.carts; cart++) {
                if (b.cartRows[cart][CART_FROM] <= day && !holds(gone[day + 1], cart)) {
                    bits |= 1 << cart;
                }
            }
            return bits;
        }

        int dayOf(Bridge b, int cart) {
            for (int day = 0; day < b.days; day++) {
                if (holds(gone[day + 1], cart)) {
                    return day;
                }
            }
            return NONE;
        }

        /** The first DAY by whose end a whole set has passed; NONE without. */
        int dayOfAll(Bridge b, int set) {
            for (int day = 0; day < b.days; day++) {
                if ((gone[day + 1] & set) == set) {
                    return day;
                }
            }
            return NONE;
        }
    }

    /**
     * All PLANS, gone through once for a BRIDGE. A PLAN's code is its row read as a
     * number, none as digit 0, so that the first of several has the least code. They
     * are told apart by the set of CARTS that they keep; what CARTS pay stays outside.
     */
    private static final class Plans {
        private boolean fresh;
        private int days;
        private int base;
        /** Up to the end of the DAY ahead: what was paid, and the least WIDTH. */
        private final int[] paid = new int[MAX_DAYS + 1];
        private final int[] least = new int[MAX_DAYS + 1];
        private final int[] many = new int[MAX_SETS];
        private final int[] setCost = new int[MAX_SETS];
        private final int[] setWays = new int[MAX_SETS];
        private final int[] setFirst = new int[MAX_SETS];
        private final int[] leastCost = new int[MAX_FEELING + 1];
        final int[] mostOn = new int[MAX_DAYS];
        final int[] firstDay = new int[MAX_CARTS];

        void forget() {
            fresh = false;
        }

        void weigh(Bridge b, Crossing walk) {
            if (fresh) {
                return;
            }
            fresh = true;
            begin(b, walk);
            int total = 1;
            for (int day = 0; day < days; day++) {
                total *= base;
            }
            int from = 0;
            for (int code = 0; code < total; code++) {
                for (int day = from; day < days; day++) {
                    walk.feelDay(b, day);
                    walk.passDay(b, day);
                    note(b, walk, day);
                }
                enter(code, walk.keptBits(b), paid[days], least[days]);
                from = turnPlan(walk);
            }
        }

        private void begin(Bridge b, Crossing walk) {
            days = b.days;
            base = b.deeds + 1;
            walk.asDone(b);
            for (int day = 0; day < MAX_DAYS; day++) {
                walk.choice[day] = NONE;
                mostOn[day] = 0;
            }
            for (int cart = 0; cart < MAX_CARTS; cart++) {
                firstDay[cart] = NONE;
            }
            for (int set = 0; set < MAX_SETS; set++) {
                many[set] = 0;
                setCost[set] = NONE;
                setWays[set] = 0;
                setFirst[set] = NONE;
            }
            for (int width = 0; width <= MAX_FEELING; width++) {
                leastCost[width] = NONE;
            }
            paid[0] = 0;
            least[0] = MAX_FEELING;
        }

        private void note(Bridge b, Crossing walk, int day) {
            int width = walk.widthOn(day);
            paid[day + 1] = paid[day] + b.costOf(walk.choice[day]);
            least[day + 1] = Math.min(least[day], width);
            mostOn[day] = Math.max(mostOn[day], width);
            int passed = walk.passedOn(day);
            for (int cart = 0; cart < b.carts && passed != 0; cart++) {
                if (holds(passed, cart) && (firstDay[cart] == NONE || day < firstDay[cart])) {
                    firstDay[cart] = day;
                }
            }
        }

        /** To the next PLAN: the first DAY that has another choice. */
        private int turnPlan(Crossing walk) {
            for (int day = days - 1; day >= 0; day--) {
                if (walk.choice[day] + 2 < base) {
                    walk.choice[day]++;
                    return day;
                }
                walk.choice[day] = NONE;
            }
            return 0;
        }

        private void enter(int code, int set, int cost, int width) {
            many[set]++;
            if (setCost[set] == NONE || cost < setCost[set]) {
                setCost[set] = cost;
                setWays[set] = 1;
                setFirst[set] = code;
            } else if (cost == setCost[set]) {
                setWays[set]++;
            }
            if (leastCost[width] == NONE || cost < leastCost[width]) {
                leastCost[width] = cost;
            }
        }

        /** BEST, if one CART paid nothing (NONE: as they pay). */
        int bestGain(Bridge b, int unpaid) {
            int greatest = NO_GAIN;
            for (int set = 0; set <= b.allCarts(); set++) {
                if (many[set] > 0) {
                    int paying = unpaid == NONE ? set : set & ~(1 << unpaid);
                    greatest = Math.max(greatest, b.payOf(paying) - setCost[set]);
                }
            }
            return greatest;
        }

        private boolean isBest(Bridge b, int set, int greatest) {
            return many[set] > 0 && b.payOf(set) - setCost[set] == greatest;
        }

        int bestWays(Bridge b) {
            int greatest = bestGain(b, NONE);
            int sum = 0;
            for (int set = 0; set <= b.allCarts(); set++) {
                if (isBest(b, set, greatest)) {
                    sum += setWays[set];
                }
            }
            return sum;
        }

        int bestFirst(Bridge b) {
            int greatest = bestGain(b, NONE);
            int found = NONE;
            for (int set = 0; set <= b.allCarts(); set++) {
                if (isBest(b, set, greatest) && (found == NONE || setFirst[set] < found)) {
                    found = setFirst[set];
                }
            }
            return found;
        }

        /** CHEAP of a set: a PLAN may keep other CARTS, too. */
        int cheapCost(int set) {
            int found = NONE;
            for (int more = set; more < MAX_SETS; more++) {
                if ((more & set) == set && many[more] > 0 && (found == NONE || setCost[more] < found)) {
                    found = setCost[more];
                }
            }
            return found;
        }

        int cheapFirst(int set) {
            int cost = cheapCost(set);
            int found = NONE;
            for (int more = set; more < MAX_SETS; more++) {
                if ((more & set) == set && many[more] > 0 && setCost[more] == cost
                        && (found == NONE || setFirst[more] < found)) {
                    found = setFirst[more];
                }
            }
            return found;
        }

        int plansKeeping(int cart) {
            int sum = 0;
            for (int set = 0; set < MAX_SETS; set++) {
                if (holds(set, cart)) {
                    sum += many[set];
                }
            }
            return sum;
        }

        int holdCost(int width) {
            int found = NONE;
            for (int more = width; more <= MAX_FEELING; more++) {
                if (leastCost[more] != NONE && (found == NONE || leastCost[more] < found)) {
                    found = leastCost[more];
                }
            }
            return found;
        }

        int widestLeast() {
            int found = 0;
            for (int width = 0; width <= MAX_FEELING; width++) {
                if (leastCost[width] != NONE) {
                    found = width;
                }
            }
            return found;
        }

        /** The DEED of a DAY by a PLAN's code. */
        int deedOn(int code, int day) {
            if (code < 0 || base <= 0) {
                return NONE;
            }
            int rest = code;
            for (int last = days - 1; last > day; last--) {
                rest /= base;
            }
            return rest % base - 1;
        }
    }

    /** All orders of CARTS, from the least row on. */
    private static final class Orders {
        int soonestEnd;
        int mostPaid;
        final int[] firstOrder = new int[MAX_CARTS];

        /** The feelings of the crossing stand; its order is changed. */
        void tryAll(Bridge b, Crossing walk) {
            soonestEnd = NONE;
            mostPaid = 0;
            if (b.carts == 0) {
                soonestEnd = 0;
                return;
            }
            int total = 1;
            for (int i = 2; i <= b.carts; i++) {
                total *= i;
            }
            for (int i = 0; i < total; i++) {
                walk.passAll(b);
                mostPaid = Math.max(mostPaid, b.payOf(walk.keptBits(b)));
                keepIfSooner(walk, walk.dayOfAll(b, b.allCarts()));
                turnOrder(walk.order, b.carts);
            }
        }

        private void keepIfSooner(Crossing walk, int day) {
            if (day == NONE || soonestEnd != NONE && day >= soonestEnd) {
                return;
            }
            soonestEnd = day;
            for (int i = 0; i < MAX_CARTS; i++) {
                firstOrder[i] = walk.order[i];
            }
        }

        /** To the next greater row; the greatest one stays. */
        private static void turnOrder(int[] order, int size) {
            int at = size - 2;
            while (at >= 0 && order[at] > order[at + 1]) {
                at--;
            }
            if (at < 0) {
                return;
            }
            int other = size - 1;
            while (other > at && order[other] < order[at]) {
                other--;
            }
            swap(order, at, other);
            int low = at + 1;
            int high = size - 1;
            while (low < high) {
                swap(order, low, high);
                low++;
                high--;
            }
        }

        private static void swap(int[] order, int one, int other) {
            int kept = order[one];
            order[one] = order[other];
            order[other] = kept;
        }
    }

    /** The SLOTS' rows. Each number is held as a long, cut to its WIDTH when it is put. */
    private static final class Slots {
        final long[][] rows = new long[SLOTS][MAX_ROW];
        final int[] sizes = new int[SLOTS];
        final int[] widths = new int[SLOTS];

        Slots() {
            for (int slot = 0; slot < SLOTS; slot++) {
                sizes[slot] = NONE;
            }
        }

        boolean hasRow(int slot) {
            return sizes[slot] != NONE;
        }

        int filled() {
            int many = 0;
            for (int slot = 0; slot < SLOTS; slot++) {
                if (hasRow(slot)) {
                    many++;
                }
            }
            return many;
        }

        void lay(int slot, int width, int n) {
            sizes[slot] = n;
            widths[slot] = width;
            for (int i = 0; i < MAX_ROW; i++) {
                rows[slot][i] = 0;
            }
        }

        /** Whether n numbers from a place on are within the row. */
        boolean reaches(int slot, int from, int n) {
            return from >= 0 && n >= 0 && from <= sizes[slot] - n;
        }

        long sharesOf(int slot, int set) {
            long sum = 0;
            for (int i = 0; i < sizes[slot]; i++) {
                if (holds(set, i)) {
                    sum += rows[slot][i];
                }
            }
            return sum;
        }

        /** Whether WIDTHS are as a row tells, whose numbers were looked at. */
        boolean tells(int slot, Crossing walk) {
            for (int i = 0; i + 1 < sizes[slot]; i += 2) {
                if (walk.widthOn((int) rows[slot][i]) != rows[slot][i + 1]) {
                    return false;
                }
            }
            return true;
        }
    }

    /** The SLIGHTS by which WIDTHS are as a row tells, and WIDTHS by each. */
    private static final class Slights {
        int many;
        int deedBits;
        private int first;
        private final int[][] widths = new int[MAX_DEEDS * MAX_DAYS][MAX_DAYS];

        void search(Bridge b, Crossing walk, Slots slots, int slot) {
            many = 0;
            deedBits = 0;
            first = NONE;
            for (int deed = 0; deed < b.deeds; deed++) {
                for (int day = 0; day < b.days; day++) {
                    walk.asDone(b);
                    walk.choice[day] = deed;
                    walk.feelThrough(b, b.days - 1);
                    if (slots.tells(slot, walk)) {
                        keep(b, walk, deed, day);
                    }
                }
            }
        }

        private void keep(Bridge b, Crossing walk, int deed, int day) {
            if (many == 0) {
                first = 10 * deed + day;
            }
            deedBits |= 1 << deed;
            for (int on = 0; on < b.days; on++) {
                widths[many][on] = walk.widthOn(on);
            }
            many++;
        }

        int firstPair() {
            return first;
        }

        int askedDay(Bridge b) {
            int fewest = many;
            int found = NONE;
            for (int day = 0; day < b.days; day++) {
                int worst = worstOn(day);
                if (worst < fewest) {
                    fewest = worst;
                    found = day;
                }
            }
            return found;
        }

        int leftAtWorst(Bridge b) {
            int day = askedDay(b);
            return day == NONE ? many : worstOn(day);
        }

        /** How many of these at most have one WIDTH on a DAY. */
        private int worstOn(int day) {
            int worst = 0;
            for (int i = 0; i < many; i++) {
                int alike = 0;
                for (int j = 0; j < many; j++) {
                    if (widths[j][day] == widths[i][day]) {
                        alike++;
                    }
                }
                worst = Math.max(worst, alike);
            }
            return worst;
        }
    }

    /** Pairs of choices on a DAY. A choice is told as a DEED and 1, 0 for none, in rows. */
    private static final class Treaty {
        private static final int CHOICES = MAX_DEEDS + 1;

        int many;
        int firstPair;
        private final int[][] gains = new int[2][CHOICES * CHOICES];

        void tryPairs(Bridge b, Crossing walk, int day) {
            for (int one = 0; one <= b.deeds; one++) {
                for (int other = 0; other <= b.deeds; other++) {
                    if (b.mayChoose(0, one - 1) && b.mayChoose(1, other - 1)) {
                        agree(b, walk, day, one - 1, other - 1);
                        gains[0][one * CHOICES + other] = gainOf(b, walk, 0, one - 1);
                        gains[1][one * CHOICES + other] = gainOf(b, walk, 1, other - 1);
                    }
                }
            }
            countRests(b);
        }

        /** Goes through all DAYS with both choices on one of them. */
        void agree(Bridge b, Crossing walk, int day, int one, int other) {
            walk.asDone(b);
            walk.choice[day] = one;
            walk.secondDay = day;
            walk.second = other;
            walk.walk(b);
        }

        int gainOf(Bridge b, Crossing walk, int side, int deed) {
            int kept = walk.keptBits(b);
            int own = 0;
            for (int cart = 0; cart < b.carts; cart++) {
                if (b.cartRows[cart][CART_SIDE] == side) {
                    own |= 1 << cart;
                }
            }
            return b.payOf(kept & own) - b.costOf(deed);
        }

        private void countRests(Bridge b) {
            many = 0;
            firstPair = NONE;
            for (int one = 0; one <= b.deeds; one++) {
                for (int other = 0; other <= b.deeds; other++) {
                    if (b.mayChoose(0, one - 1) && b.mayChoose(1, other - 1) && isRest(b, one, other)) {
                        if (many == 0) {
                            firstPair = 10 * one + other;
                        }
                        many++;
                    }
                }
            }
        }

        private boolean isRest(Bridge b, int one, int other) {
            int here = one * CHOICES + other;
            for (int change = 0; change <= b.deeds; change++) {
                if (b.mayChoose(0, change - 1) && gains[0][change * CHOICES + other] > gains[0][here]) {
                    return false;
                }
                if (b.mayChoose(1, change - 1) && gains[1][one * CHOICES + change] > gains[1][here]) {
                    return false;
                }
            }
            return true;
        }
    }

    /** DAYS with a temper: all that can be, weighed, and those drawn from a seed. */
    private static final class Tempers {
        /** How often in 10 to the DAYS up to one WIDTH is n at least on it. */
        static int weightOf(Bridge b, Crossing walk, int day, int n) {
            walk.asDone(b);
            int sum = 0;
            for (int bits = 0; bits < 1 << (day + 1); bits++) {
                walk.temperBits = bits;
                walk.feelThrough(b, day);
                if (walk.widthOn(day) >= n) {
                    sum += weightOfBits(b, bits, day);
                }
            }
            return sum;
        }

        private static int weightOfBits(Bridge b, int bits, int last) {
            int weight = 1;
            for (int day = 0; day <= last; day++) {
                weight *= holds(bits, day) ? b.odds : MAX_ODDS - b.odds;
            }
            return weight;
        }

        /** Goes through all DAYS as drawn. */
        static void drawDays(Bridge b, Crossing walk, long seed) {
            walk.asDone(b);
            long x = seed;
            for (int day = 0; day < b.days; day++) {
                x = (1103515245L * x + 12345L) % 2147483648L;
                if (x / 65536L % 10L < b.odds) {
                    walk.temperBits |= 1 << day;
                }
            }
            walk.walk(b);
        }
    }
}
