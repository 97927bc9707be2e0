import java.util.Arrays;

/**
 * A land in which a letter of recommendation has to be by an enemy.
 *
 * Whatever a call needs is made by the constructor and used again: no call makes an object.
 */
public final class EnemyLetters {
    public static final int NONE = -1;

    private static final int NO_SUCH = -2;
    private static final int NO_SUCH_FEELING = -1000;
    private static final int TOO_LONG = -3;
    private static final int BELOW_ZERO = -3;
    private static final int FAULTY = -4;
    private static final int ACTS_REFUSE = -5;
    private static final int NOTHING = -6;
    private static final int BEYOND = -7;
    private static final int WIDTHS_DIFFER = -8;

    private static final int MOST_BYTES = 800;
    private static final int MOST_YEARS = 12;
    private static final int MOST_PERSONS = 6;
    private static final int MOST_PAIRS = 36;
    private static final int MOST_BONDS = 20;
    private static final int MOST_WRONGS = 8;
    private static final int MOST_POSTS = 5;
    private static final int MOST_ACTS = 30;
    private static final int MOST_IMAGES = 3;
    private static final int MOST_SLOTS = 4;
    private static final int MOST_NUMBERS = 60;
    private static final int LAWS = 4;
    private static final int SKILLS = 6;
    private static final int SKILL_SETS = 64;
    private static final int ALL_SKILLS = 63;
    private static final int DEEPEST_HATE = -60;
    private static final int GREATEST_WRONG = 40;
    private static final int GREATEST_LEAST = 120;
    private static final int YEARS_BY_CHANCE = 9;
    private static final int GREATEST_SEED = 2000000000;
    private static final int MOST_DRAWN = 20;
    private static final int GAME_WRONG = 10;
    private static final int GAME_PRIZE = 9;
    private static final int GAME_PRICE = 4;
    private static final int[] FACTORIALS = {1, 1, 2, 6, 24, 120};

    private final Tape tape = new Tape();
    private final Reader reader = new Reader(tape);
    private final Land told = new Land();
    private final Course now = new Course(told);
    private final Course trial = new Course(told);
    private final Choice choice = new Choice(told, now);
    private final Slots slots = new Slots();
    private final Sight sight = new Sight(told, trial, slots);
    private final Land[] images = {new Land(), new Land(), new Land()};
    private final boolean[] kept = new boolean[MOST_IMAGES];

    public EnemyLetters() {
        now.reset();
        now.run();
    }

    // ---- the tape and the land ----

    public int feed(int a, int b, int c, int d, int e) {
        if (tape.size + 20 > MOST_BYTES) {
            return NONE;
        }
        tape.add(a);
        tape.add(b);
        tape.add(c);
        tape.add(d);
        tape.add(e);
        return tape.size;
    }

    public int end(int n) {
        if (n < 0 || n > tape.size) {
            return NONE;
        }
        tape.size = n;
        return n;
    }

    public int land() {
        boolean fine = reader.read();
        tape.size = 0;
        if (!fine) {
            return FAULTY;
        }
        told.copyFrom(reader.land);
        refresh();
        return told.lines;
    }

    public int fault(int what) {
        if (what == 0) {
            return reader.fault;
        }
        return what == 1 ? reader.place : NONE;
    }

    public int skills(int person) {
        return isPerson(person) ? told.canDo[person] : NO_SUCH;
    }

    public int needs(int post) {
        return isPost(post) ? told.asks[post] : NO_SUCH;
    }

    public int year(int post) {
        return isPost(post) ? told.when[post] : NO_SUCH;
    }

    // ---- feelings, year by year ----

    public int feels(int person, int other, int year) {
        return isPair(person, other) && isYear(year) ? now.feeling(person, other, year) : NO_SUCH_FEELING;
    }

    public int enemies(int person, int year) {
        return isThen(person, year) ? now.towards(person, year, -1) : NO_SUCH;
    }

    public int friends(int person, int year) {
        return isThen(person, year) ? now.towards(person, year, 1) : NO_SUCH;
    }

    public int hate(int person, int year) {
        return isThen(person, year) ? now.hateBy(person, year, told.everybody()) : NO_SUCH;
    }

    public int worst(int person, int year) {
        return isThen(person, year) ? now.bitterest(person, year, told.everybody()) : NO_SUCH;
    }

    public int mild(int person, int year) {
        return isThen(person, year) ? Integer.bitCount(now.towards(person, year, 0)) : NO_SUCH;
    }

    public int bitter(int year) {
        if (!isYear(year)) {
            return NO_SUCH;
        }
        int who = 0;
        for (int p = 0; p < told.persons; p++) {
            who |= now.towards(p, year, -1);
        }
        return who;
    }

    public int praise(int person) {
        if (!isPerson(person)) {
            return NO_SUCH;
        }
        int sum = 0;
        for (int q = 0; q < told.posts; q++) {
            sum += Math.max(now.wordFor(person, q), 0);
        }
        return sum;
    }

    public int dearest(int person, int year) {
        if (!isThen(person, year)) {
            return NO_SUCH;
        }
        int who = NONE;
        int most = 0;
        for (int p = 0; p < told.persons; p++) {
            int feeling = now.feeling(p, person, year);
            if (feeling > most) {
                most = feeling;
                who = p;
            }
        }
        return who;
    }

    public int foe(int person, int year) {
        if (!isThen(person, year)) {
            return NO_SUCH;
        }
        int who = NONE;
        int least = 0;
        for (int p = 0; p < told.persons; p++) {
            int feeling = now.feeling(person, p, year);
            if (feeling < least) {
                least = feeling;
                who = p;
            }
        }
        return who;
    }

    public int steady(int person, int other) {
        if (!isPair(person, other)) {
            return NO_SUCH;
        }
        int n = 0;
        for (int y = 1; y < told.years; y++) {
            if (now.feeling(person, other, y) == now.feeling(person, other, y - 1)) {
                n++;
            }
        }
        return n;
    }

    public int cold(int year) {
        return isYear(year) ? now.pairsAlike(year, 0) : NO_SUCH;
    }

    public int harms(int person) {
        return isPerson(person)
            ? told.wrongs.doneBy(person, told.years) + told.acts.doneBy(person, told.years) : NO_SUCH;
    }

    public int hurts(int person) {
        return isPerson(person)
            ? told.wrongs.doneTo(person, told.years) + told.acts.doneTo(person, told.years) : NO_SUCH;
    }

    public int all(int year) {
        if (!isYear(year)) {
            return NO_SUCH;
        }
        int sum = 0;
        for (int p = 0; p < told.persons; p++) {
            sum += now.hateBy(p, year, told.everybody());
        }
        return sum;
    }

    public int top(int post) {
        if (!isPost(post)) {
            return NO_SUCH;
        }
        int who = now.foremost(post, told.everybody());
        return who == NONE ? NONE : now.wordFor(who, post);
    }

    public int next(int post) {
        return isPost(post) ? now.runnerUp(post) : NO_SUCH;
    }

    public int first() {
        if (!isLand()) {
            return NO_SUCH;
        }
        int least = NONE;
        for (int q = 0; q < told.posts; q++) {
            if (now.winner[q] != NONE && (least == NONE || told.when[q] < least)) {
                least = told.when[q];
            }
        }
        return least;
    }

    public int sours(int person, int other) {
        if (!isPair(person, other)) {
            return NO_SUCH;
        }
        for (int y = 0; y < told.years; y++) {
            if (now.feeling(person, other, y) < 0) {
                return y;
            }
        }
        return NONE;
    }

    public int years(int person, int other) {
        if (!isPair(person, other)) {
            return NO_SUCH;
        }
        int n = 0;
        for (int y = 0; y < told.years; y++) {
            if (now.feeling(person, other, y) < 0) {
                n++;
            }
        }
        return n;
    }

    public int lowest(int person, int other) {
        if (!isPair(person, other)) {
            return NO_SUCH_FEELING;
        }
        int least = now.feeling(person, other, 0);
        for (int y = 1; y < told.years; y++) {
            least = Math.min(least, now.feeling(person, other, y));
        }
        return least;
    }

    public int hated(int year) {
        if (!isYear(year)) {
            return NO_SUCH;
        }
        int who = NONE;
        int most = 0;
        for (int p = 0; p < told.persons; p++) {
            int hate = now.hateBy(p, year, told.everybody());
            if (hate > most) {
                most = hate;
                who = p;
            }
        }
        return who;
    }

    public int porter(int year) {
        if (!isYear(year)) {
            return NO_SUCH;
        }
        int who = NONE;
        int most = -1;
        for (int p = 0; p < told.persons; p++) {
            int likers = Integer.bitCount(now.towards(p, year, 1));
            if (now.towards(p, year, -1) == 0 && likers > most) {
                most = likers;
                who = p;
            }
        }
        return who;
    }

    public int mutual(int year) {
        return isYear(year) ? now.pairsAlike(year, -1) : NO_SUCH;
    }

    public int rings(int year) {
        if (!isYear(year)) {
            return NO_SUCH;
        }
        int n = 0;
        for (int a = 0; a < told.persons; a++) {
            for (int b = a + 1; b < told.persons; b++) {
                for (int c = b + 1; c < told.persons; c++) {
                    if (now.isRound(a, b, c, year) || now.isRound(c, b, a, year)) {
                        n++;
                    }
                }
            }
        }
        return n;
    }

    // ---- words and posts ----

    public int word(int person, int post) {
        return isFor(person, post) ? now.wordFor(person, post) : NO_SUCH;
    }

    public int pens(int person, int post) {
        return isFor(person, post) ? now.writersOf(person, post, told.everybody()) : NO_SUCH;
    }

    public int gets(int post) {
        return isPost(post) ? now.winner[post] : NO_SUCH;
    }

    public int has(int person) {
        return isPerson(person) ? now.postOf(person) : NO_SUCH;
    }

    public int may(int post) {
        if (!isPost(post)) {
            return NO_SUCH;
        }
        int who = 0;
        for (int p = 0; p < told.persons; p++) {
            if (now.wordFor(p, post) >= 0) {
                who |= 1 << p;
            }
        }
        return who;
    }

    public int edge(int post) {
        if (!isPost(post)) {
            return NO_SUCH;
        }
        int who = now.winner[post];
        int second = now.runnerUp(post);
        if (who == NONE || second == NONE) {
            return NONE;
        }
        return now.wordFor(who, post) - now.wordFor(second, post);
    }

    public int writes(int person) {
        if (!isPerson(person)) {
            return NO_SUCH;
        }
        int n = 0;
        for (int q = 0; q < told.posts; q++) {
            int who = now.winner[q];
            if (who != NONE && isIn(person, now.writersOf(who, q, told.everybody()))) {
                n++;
            }
        }
        return n;
    }

    public int given() {
        return isLand() ? now.postsGiven() : NO_SUCH;
    }

    public int idle() {
        if (!isLand()) {
            return NO_SUCH;
        }
        int who = 0;
        for (int p = 0; p < told.persons; p++) {
            if (now.postOf(p) == NONE) {
                who |= 1 << p;
            }
        }
        return who;
    }

    public int hopes(int person) {
        if (!isPerson(person)) {
            return NO_SUCH;
        }
        int which = 0;
        for (int q = 0; q < told.posts; q++) {
            if (now.wordFor(person, q) >= 0) {
                which |= 1 << q;
            }
        }
        return which;
    }

    public int lacks(int person, int post) {
        return isFor(person, post) ? told.asks[post] & ~told.canDo[person] : NO_SUCH;
    }

    // ---- what would be ----

    public int least(int person, int other, int post) {
        return isPair(person, other) && isPost(post)
            ? leastBelow(person, other, post, GREATEST_LEAST + 1) : NO_SUCH;
    }

    public int target(int person, int post) {
        if (!isFor(person, post)) {
            return NO_SUCH;
        }
        int who = NONE;
        int bound = GREATEST_LEAST + 1;
        for (int p = 0; p < told.persons && bound > 0; p++) {
            int n = p == person ? NONE : leastBelow(person, p, post, bound);
            if (n != NONE) {
                bound = n;
                who = p;
            }
        }
        return who;
    }

    public int learns(int person, int post) {
        if (!isFor(person, post)) {
            return NO_SUCH;
        }
        trial.reset();
        trial.run();
        for (int n = 0; n <= SKILLS; n++) {
            for (int set = 0; set < SKILL_SETS; set++) {
                boolean isMore = (set & told.canDo[person]) == 0 && Integer.bitCount(set) == n;
                if (isMore && getsWith(person, post, set)) {
                    return set;
                }
            }
        }
        return NONE;
    }

    public int best() {
        if (!isLand()) {
            return NO_SUCH;
        }
        choice.search();
        return choice.most;
    }

    public int put(int post) {
        if (!isPost(post)) {
            return NO_SUCH;
        }
        choice.search();
        return choice.firstRow[post];
    }

    public int ways() {
        if (!isLand()) {
            return NO_SUCH;
        }
        choice.search();
        return choice.found;
    }

    public int by(int law) {
        return isLand() && law >= 0 && law < LAWS ? givenByLaw(law) : NO_SUCH;
    }

    public int law() {
        if (!isLand()) {
            return NO_SUCH;
        }
        int which = 0;
        int most = -1;
        for (int i = 0; i < LAWS; i++) {
            int n = givenByLaw(i);
            if (n > most) {
                most = n;
                which = i;
            }
        }
        return which;
    }

    public int spare() {
        if (!isLand()) {
            return NO_SUCH;
        }
        int which = NONE;
        int most = Integer.bitCount(now.postsGiven());
        for (int i = 0; i < told.wrongs.size; i++) {
            trial.reset();
            trial.leftOut = i;
            trial.run();
            int n = Integer.bitCount(trial.postsGiven());
            if (n > most) {
                most = n;
                which = i;
            }
        }
        return which;
    }

    // ---- what was seen ----

    public int fits(int slot, int person) {
        int refusal = lookInto(slot, person);
        return refusal != 0 ? refusal : sight.found;
    }

    public int surely(int slot, int person) {
        int refusal = lookInto(slot, person);
        if (refusal != 0) {
            return refusal;
        }
        return sight.found == 0 ? NONE : sight.inAll;
    }

    public int never(int slot, int person) {
        int refusal = lookInto(slot, person);
        if (refusal != 0) {
            return refusal;
        }
        return sight.found == 0 ? NONE : ALL_SKILLS & ~sight.inSome;
    }

    public int ask(int slot, int person) {
        int refusal = lookInto(slot, person);
        return refusal != 0 ? refusal : sight.tellingPost();
    }

    public int leaves(int slot, int person) {
        int refusal = lookInto(slot, person);
        if (refusal != 0) {
            return refusal;
        }
        int post = sight.tellingPost();
        return post == NONE ? sight.found : sight.leftAtWorst(post);
    }

    public int laws(int slot) {
        if (!isLand() || !slots.isSlot(slot)) {
            return NO_SUCH;
        }
        if (slots.sizes[slot] < 0) {
            return NOTHING;
        }
        if (!sight.isTold(slot)) {
            return NO_SUCH;
        }
        int which = 0;
        for (int i = 0; i < LAWS; i++) {
            givenByLaw(i);
            if (sight.isSo(slot)) {
                which |= 1 << i;
            }
        }
        return which;
    }

    // ---- sets that write alone, the game ----

    public int worth(int person, int post, int set) {
        return isFor(person, post) && set >= 0 && set <= told.everybody()
            ? wordAlone(person, post, set) : NO_SUCH;
    }

    public int share(int person, int post, int other, int what) {
        if (!isPair(person, other) || !isPost(post) || !isPart(what)) {
            return NO_SUCH;
        }
        int mates = told.persons - 2;
        int aside = (1 << person) | (1 << other);
        long sum = 0;
        for (int set = 0; set <= told.everybody(); set++) {
            int ahead = Integer.bitCount(set);
            if ((set & aside) == 0 && ahead <= mates) {
                int more = wordAlone(person, post, set | (1 << other)) - wordAlone(person, post, set);
                sum += (long) FACTORIALS[ahead] * FACTORIALS[mates - ahead] * more;
            }
        }
        return (int) fractionPart(sum, FACTORIALS[mates + 1], what);
    }

    public int rests(int person, int other) {
        if (!isPair(person, other)) {
            return NO_SUCH;
        }
        int ends = 0;
        for (int choices = 0; choices < 4; choices++) {
            ends |= play(person, other, choices) << (2 * choices);
        }
        int atRest = 0;
        for (int choices = 0; choices < 4; choices++) {
            if (isContent(ends, choices, 0) && isContent(ends, choices, 1)) {
                atRest |= 1 << choices;
            }
        }
        return atRest;
    }

    public int wins(int person, int other, int x, int y) {
        if (!isPair(person, other) || !isPart(x) || !isPart(y)) {
            return NO_SUCH_FEELING;
        }
        int choices = x | (y << 1);
        return gain(play(person, other, choices), choices, 0);
    }

    // ---- thaws by chance ----

    public long chance(int person, int post, int what) {
        if (!isFor(person, post) || !isPart(what)) {
            return NO_SUCH;
        }
        return told.years > YEARS_BY_CHANCE ? TOO_LONG : byChance(person, post, what);
    }

    public long mean(int what) {
        if (!isLand() || !isPart(what)) {
            return NO_SUCH;
        }
        return told.years > YEARS_BY_CHANCE ? TOO_LONG : byChance(NONE, NONE, what);
    }

    // ---- acts ----

    public int wrongs(int person, int other, int n, int year) {
        return n >= 1 && n <= GREATEST_WRONG ? act(person, other, n, year) : NO_SUCH_FEELING;
    }

    public int amends(int person, int other, int year) {
        return act(person, other, 0, year);
    }

    public int undo() {
        if (!isLand()) {
            return NO_SUCH;
        }
        if (told.acts.size == 0) {
            return ACTS_REFUSE;
        }
        told.acts.size--;
        refresh();
        return told.acts.size;
    }

    public int anew() {
        if (!isLand()) {
            return NO_SUCH;
        }
        int n = told.acts.size;
        told.acts.size = 0;
        refresh();
        return n;
    }

    // ---- years drawn ----

    public int drawn(int seed, int what) {
        if (!isLand() || !isSeed(seed) || !isPart(what)) {
            return NO_SUCH;
        }
        runDrawn(seed);
        return what == 0 ? trial.thaws : trial.postsGiven();
    }

    public int luck(int seed, int n, int person, int post) {
        if (!isSeed(seed) || n < 1 || n > MOST_DRAWN || !isFor(person, post)) {
            return NO_SUCH;
        }
        int times = 0;
        for (int i = 0; i < n; i++) {
            runDrawn(seed + i);
            times += trial.times(person, post);
        }
        return times;
    }

    // ---- changes, counts, images ----

    public int rate(int person, int set) {
        if (!isPerson(person) || set < 0 || set > ALL_SKILLS) {
            return NO_SUCH;
        }
        if (told.acts.size > 0) {
            return ACTS_REFUSE;
        }
        int before = told.canDo[person];
        told.canDo[person] = set;
        refresh();
        return before;
    }

    public int count(int what) {
        switch (what) {
            case 0: return told.years;
            case 1: return told.fading;
            case 2: return told.odds;
            case 3: return told.persons;
            case 4: return told.bonds;
            case 5: return told.wrongs.size;
            case 6: return told.posts;
            case 7: return told.acts.size;
            case 8: return told.lines;
            case 9: return tape.size;
            case 10: return slots.used();
            default: return NONE;
        }
    }

    public int image(int k) {
        if (!isImage(k)) {
            return NO_SUCH;
        }
        images[k].copyFrom(told);
        kept[k] = true;
        return 0;
    }

    public int back(int k) {
        if (!isImage(k)) {
            return NO_SUCH;
        }
        if (!kept[k]) {
            return NOTHING;
        }
        told.copyFrom(images[k]);
        refresh();
        return 0;
    }

    // ---- slots ----

    public int row(int slot, int width, int n) {
        if (!slots.isSlot(slot) || width < 0 || width >= 4 || n > MOST_NUMBERS) {
            return NO_SUCH;
        }
        if (n < 0) {
            return BELOW_ZERO;
        }
        slots.make(slot, width, n);
        return 0;
    }

    public int write(int slot, int i, long v) {
        if (!slots.isSlot(slot)) {
            return NO_SUCH;
        }
        if (slots.sizes[slot] < 0) {
            return NOTHING;
        }
        if (i < 0 || i >= slots.sizes[slot]) {
            return BEYOND;
        }
        slots.store(slot, i, v);
        return 0;
    }

    public int paste(int slot, int i, int to, int k, int n) {
        if (!slots.isSlot(slot) || !slots.isSlot(to)) {
            return NO_SUCH;
        }
        if (slots.sizes[slot] < 0 || slots.sizes[to] < 0) {
            return NOTHING;
        }
        if (slots.widths[slot] != slots.widths[to]) {
            return WIDTHS_DIFFER;
        }
        if (!slots.isRange(slot, i, n) || !slots.isRange(to, k, n)) {
            return BEYOND;
        }
        slots.copy(slot, i, to, k, n);
        return 0;
    }

    // ---- what there is ----

    private boolean isLand() {
        return told.lines > 0;
    }

    private boolean isPerson(int person) {
        return person >= 0 && person < told.persons;
    }

    private boolean isPost(int post) {
        return post >= 0 && post < told.posts;
    }

    private boolean isYear(int year) {
        return year >= 0 && year < told.years;
    }

    private boolean isPair(int person, int other) {
        return isPerson(person) && isPerson(other) && person != other;
    }

    private boolean isThen(int person, int year) {
        return isPerson(person) && isYear(year);
    }

    private boolean isFor(int person, int post) {
        return isPerson(person) && isPost(post);
    }

    private static boolean isIn(int bit, int set) {
        return ((set >> bit) & 1) == 1;
    }

    private static boolean isPart(int what) {
        return what == 0 || what == 1;
    }

    private static boolean isSeed(int seed) {
        return seed >= 0 && seed <= GREATEST_SEED;
    }

    private static boolean isImage(int k) {
        return k >= 0 && k < MOST_IMAGES;
    }

    // ---- the work behind the face ----

    /** Questions are asked far more often than the land changes, so its course is kept ready. */
    private void refresh() {
        now.reset();
        now.run();
    }

    private int act(int person, int other, int n, int year) {
        if (!isPair(person, other) || !isYear(year)) {
            return NO_SUCH_FEELING;
        }
        if (!told.acts.add(person, other, n, year)) {
            return ACTS_REFUSE;
        }
        refresh();
        return now.feeling(other, person, year);
    }

    /** The least wrong below a bound; it moves one feeling alone, so only that and his words are made anew. */
    private int leastBelow(int person, int other, int post, int bound) {
        int pair = other * MOST_PERSONS + person;
        trial.reset();
        trial.run();
        for (int n = 0; n < bound; n++) {
            trial.extra[pair] = n;
            trial.live(pair, pair + 1);
            trial.weigh(person);
            trial.givePosts();
            if (trial.winner[post] == person) {
                return n;
            }
            if (trial.feeling(other, person, 0) <= DEEPEST_HATE) {
                return NONE;
            }
        }
        return NONE;
    }

    private boolean getsWith(int person, int post, int more) {
        trial.ableTo[person] = told.canDo[person] | more;
        trial.weigh(person);
        trial.givePosts();
        return trial.winner[post] == person;
    }

    private int givenByLaw(int which) {
        trial.reset();
        trial.fading = which;
        trial.run();
        return Integer.bitCount(trial.postsGiven());
    }

    private int lookInto(int slot, int person) {
        if (!slots.isSlot(slot) || !isPerson(person)) {
            return NO_SUCH;
        }
        if (slots.sizes[slot] < 0) {
            return NOTHING;
        }
        if (!sight.isTold(slot)) {
            return NO_SUCH;
        }
        sight.look(slot, person);
        return 0;
    }

    private int wordAlone(int person, int post, int set) {
        int writers = now.writersOf(person, post, set);
        return writers == NONE ? 0 : now.hateBy(person, told.when[post], writers);
    }

    /** Bit 0: the first one gets some post, bit 1: the other one does; choices has their choices so. */
    private int play(int person, int other, int choices) {
        int last = told.persons - 1;
        trial.reset();
        if ((choices & 1) != 0 && person != last) {
            trial.extra[last * MOST_PERSONS + person] = GAME_WRONG;
        }
        if ((choices & 2) != 0 && other != last) {
            trial.extra[last * MOST_PERSONS + other] = GAME_WRONG;
        }
        trial.run();
        return (trial.postOf(person) == NONE ? 0 : 1) | (trial.postOf(other) == NONE ? 0 : 2);
    }

    private static int gain(int end, int choices, int side) {
        return GAME_PRIZE * ((end >> side) & 1) - GAME_PRICE * ((choices >> side) & 1);
    }

    private static boolean isContent(int ends, int choices, int side) {
        int turned = choices ^ (1 << side);
        return gain(ends >> (2 * choices), choices, side) >= gain(ends >> (2 * turned), turned, side);
    }

    /** The chance of one post for one person, or, without a post, the mean number of posts given. */
    private long byChance(int person, int post, int what) {
        int gaps = Math.max(told.years - 1, 0);
        long above = 0;
        trial.reset();
        for (int thaws = 0; thaws < 1 << gaps; thaws++) {
            long weight = weightOf(thaws, gaps);
            if (weight > 0) {
                trial.thaws = thaws;
                trial.run();
                above += weight * (post == NONE ? Integer.bitCount(trial.postsGiven()) : trial.times(person, post));
            }
        }
        long below = 1;
        for (int i = 0; i < gaps; i++) {
            below *= 10;
        }
        return fractionPart(above, below, what);
    }

    private long weightOf(int thaws, int gaps) {
        long weight = 1;
        for (int i = 0; i < gaps; i++) {
            weight *= isIn(i, thaws) ? told.odds : 10 - told.odds;
        }
        return weight;
    }

    private static long fractionPart(long above, long below, int what) {
        long a = below;
        long b = above;
        for (int i = 0; i < 200 && b != 0; i++) {
            long rest = a % b;
            a = b;
            b = rest;
        }
        long part = what == 0 ? above : below;
        return a == 0 ? part : part / a;
    }

    private void runDrawn(int seed) {
        long x = seed;
        int thaws = 0;
        for (int y = 0; y + 1 < told.years; y++) {
            x = (1103515245L * x + 12345L) % 2147483648L;
            if (x / 65536 % 10 < told.odds) {
                thaws |= 1 << y;
            }
        }
        trial.reset();
        trial.thaws = thaws;
        trial.run();
    }

    /** Bytes that wait to be read. */
    private static final class Tape {
        final byte[] bytes = new byte[MOST_BYTES];
        int size;

        void add(int four) {
            for (int shift = 24; shift >= 0 && size < MOST_BYTES; shift -= 8) {
                bytes[size] = (byte) (four >> shift);
                size++;
            }
        }
    }

    /** Wrongs and amends in the order in which they come; amends are a deed of 0. */
    private static final class Deeds {
        final int[] doer;
        final int[] sufferer;
        final int[] extent;
        final int[] when;
        int size;

        Deeds(int room) {
            doer = new int[room];
            sufferer = new int[room];
            extent = new int[room];
            when = new int[room];
        }

        boolean add(int who, int whom, int n, int year) {
            if (size >= doer.length) {
                return false;
            }
            doer[size] = who;
            sufferer[size] = whom;
            extent[size] = n;
            when[size] = year;
            size++;
            return true;
        }

        void copyFrom(Deeds that) {
            int n = Math.min(that.size, doer.length);
            System.arraycopy(that.doer, 0, doer, 0, n);
            System.arraycopy(that.sufferer, 0, sufferer, 0, n);
            System.arraycopy(that.extent, 0, extent, 0, n);
            System.arraycopy(that.when, 0, when, 0, n);
            size = n;
        }

        int doneBy(int person, int yearsThereAre) {
            int sum = 0;
            for (int i = 0; i < size; i++) {
                sum += doer[i] == person && when[i] < yearsThereAre ? extent[i] : 0;
            }
            return sum;
        }

        int doneTo(int person, int yearsThereAre) {
            int sum = 0;
            for (int i = 0; i < size; i++) {
                sum += sufferer[i] == person && when[i] < yearsThereAre ? extent[i] : 0;
            }
            return sum;
        }
    }

    /** What a tape told, and the acts since; without lines there is no land. */
    private static final class Land {
        int years;
        int fading;
        int odds;
        int persons;
        int bonds;
        int posts;
        int lines;
        final int[] canDo = new int[MOST_PERSONS];
        final int[] feelings = new int[MOST_PAIRS];
        final int[] asks = new int[MOST_POSTS];
        final int[] when = new int[MOST_POSTS];
        final Deeds wrongs = new Deeds(MOST_WRONGS);
        final Deeds acts = new Deeds(MOST_ACTS);

        void clear() {
            years = 0;
            fading = 0;
            odds = 0;
            persons = 0;
            bonds = 0;
            posts = 0;
            lines = 0;
            Arrays.fill(feelings, 0);
            wrongs.size = 0;
            acts.size = 0;
        }

        void copyFrom(Land that) {
            years = that.years;
            fading = that.fading;
            odds = that.odds;
            persons = that.persons;
            bonds = that.bonds;
            posts = that.posts;
            lines = that.lines;
            System.arraycopy(that.canDo, 0, canDo, 0, MOST_PERSONS);
            System.arraycopy(that.feelings, 0, feelings, 0, MOST_PAIRS);
            System.arraycopy(that.asks, 0, asks, 0, MOST_POSTS);
            System.arraycopy(that.when, 0, when, 0, MOST_POSTS);
            wrongs.copyFrom(that.wrongs);
            acts.copyFrom(that.acts);
        }

        int everybody() {
            return (1 << persons) - 1;
        }
    }

    /** Reads a tape into a land of its own, so that a fault leaves the land in use as it was. */
    private static final class Reader {
        static final int END = 0;
        static final int WORD = 1;
        static final int NUMBER = 2;
        static final int SIGN = 3;
        static final int NO_TOKEN = 4;
        static final int FAR_OUT = 1000;

        final Tape tape;
        final Land land = new Land();
        int fault;
        int place = NONE;
        int kind;
        int start;
        int behind;
        int value;
        int number;
        int one;
        int two;
        int set;

        Reader(Tape source) {
            tape = source;
        }

        boolean read() {
            land.clear();
            fault = 0;
            place = NONE;
            behind = 0;
            advance();
            for (int i = 0; i <= tape.size && kind != END; i++) {
                boolean fine = land.lines == 0 ? readOpening() : readLater();
                if (!fine || !closeLine()) {
                    return false;
                }
            }
            return true;
        }

        private boolean closeLine() {
            if (kind != SIGN) {
                return refuse(1);
            }
            land.lines++;
            advance();
            return true;
        }

        private boolean readOpening() {
            if (!readWord("land") || !readWord("years") || !readNumber(1, MOST_YEARS, NONE)) {
                return false;
            }
            land.years = number;
            if (!readWord("law") || !readNumber(0, LAWS - 1, NONE)) {
                return false;
            }
            land.fading = number;
            if (!readWord("odds") || !readNumber(0, 10, NONE)) {
                return false;
            }
            land.odds = number;
            return true;
        }

        private boolean readLater() {
            if (isWord("person")) {
                return readPerson();
            }
            if (isWord("likes")) {
                return readBond(1);
            }
            if (isWord("hates")) {
                return readBond(-1);
            }
            if (isWord("wrong")) {
                return readWrong();
            }
            return isWord("post") ? readPost() : refuse(1);
        }

        private boolean readPerson() {
            if (land.persons >= MOST_PERSONS) {
                return refuse(3);
            }
            advance();
            if (!readSkills()) {
                return false;
            }
            land.canDo[land.persons] = set;
            land.persons++;
            return true;
        }

        private boolean readBond(int sign) {
            if (land.bonds >= MOST_BONDS) {
                return refuse(3);
            }
            advance();
            if (!readTwo() || !readNumber(1, 60, NONE)) {
                return false;
            }
            land.feelings[one * MOST_PERSONS + two] = sign * number;
            land.bonds++;
            return true;
        }

        private boolean readWrong() {
            if (land.wrongs.size >= MOST_WRONGS) {
                return refuse(3);
            }
            advance();
            if (!readTwo() || !readNumber(1, GREATEST_WRONG, NONE)) {
                return false;
            }
            int extent = number;
            if (!readWord("at") || !readNumber(0, MOST_YEARS - 1, NONE)) {
                return false;
            }
            return land.wrongs.add(one, two, extent, number);
        }

        private boolean readPost() {
            if (land.posts >= MOST_POSTS) {
                return refuse(3);
            }
            advance();
            if (!readWord("at") || !readNumber(0, MOST_YEARS - 1, NONE)) {
                return false;
            }
            int year = number;
            if (!readSkills()) {
                return false;
            }
            land.asks[land.posts] = set;
            land.when[land.posts] = year;
            land.posts++;
            return true;
        }

        private boolean readSkills() {
            set = 0;
            for (int i = 0; i <= SKILLS && kind == NUMBER; i++) {
                if (value >= SKILLS || isIn(value, set)) {
                    return refuse(2);
                }
                set |= 1 << value;
                advance();
            }
            return true;
        }

        private boolean readTwo() {
            if (!readNumber(0, land.persons - 1, NONE)) {
                return false;
            }
            one = number;
            if (!readNumber(0, land.persons - 1, one)) {
                return false;
            }
            two = number;
            return true;
        }

        private boolean readNumber(int low, int high, int unlike) {
            if (kind != NUMBER) {
                return refuse(1);
            }
            if (value < low || value > high || value == unlike) {
                return refuse(2);
            }
            number = value;
            advance();
            return true;
        }

        private boolean readWord(String due) {
            if (!isWord(due)) {
                return refuse(1);
            }
            advance();
            return true;
        }

        private boolean refuse(int which) {
            fault = which;
            place = start;
            return false;
        }

        private boolean isWord(String due) {
            if (kind != WORD || behind - start != due.length()) {
                return false;
            }
            for (int i = 0; i < due.length(); i++) {
                if (tape.bytes[start + i] != due.charAt(i)) {
                    return false;
                }
            }
            return true;
        }

        private void advance() {
            while (behind < tape.size && isBlank(tape.bytes[behind])) {
                behind++;
            }
            start = behind;
            kind = behind < tape.size ? kindOf(tape.bytes[behind]) : END;
            boolean isLong = kind == WORD || kind == NUMBER;
            behind = Math.min(behind + 1, tape.size);
            while (isLong && behind < tape.size && kindOf(tape.bytes[behind]) == kind) {
                behind++;
            }
            value = 0;
            for (int i = start; kind == NUMBER && i < behind; i++) {
                value = Math.min(value * 10 + tape.bytes[i] - '0', FAR_OUT);
            }
        }

        private static boolean isBlank(byte sign) {
            return sign == 32 || sign == 10;
        }

        private static int kindOf(byte sign) {
            if (sign >= 'a' && sign <= 'z') {
                return WORD;
            }
            if (sign >= '0' && sign <= '9') {
                return NUMBER;
            }
            return sign == ';' ? SIGN : NO_TOKEN;
        }
    }

    /** The land's years as they are, or as they would be with something changed. */
    private static final class Course {
        final Land land;
        int fading;
        int thaws;
        int leftOut;
        final int[] extra = new int[MOST_PAIRS];
        final int[] ableTo = new int[MOST_PERSONS];
        final int[] feelings = new int[MOST_YEARS * MOST_PAIRS];
        final int[] words = new int[MOST_POSTS * MOST_PERSONS];
        final int[] winner = new int[MOST_POSTS];

        Course(Land source) {
            land = source;
        }

        void reset() {
            fading = land.fading;
            thaws = 0;
            leftOut = NONE;
            Arrays.fill(extra, 0);
            System.arraycopy(land.canDo, 0, ableTo, 0, MOST_PERSONS);
        }

        void run() {
            live(0, MOST_PAIRS);
            for (int p = 0; p < land.persons; p++) {
                weigh(p);
            }
            givePosts();
        }

        /** Feelings of pairs from .. to - 1; no pair's feelings depend on another's. */
        void live(int from, int to) {
            System.arraycopy(land.feelings, from, feelings, from, to - from);
            for (int y = 0; y < land.years; y++) {
                if (y > 0) {
                    fade(y, from, to);
                }
                suffer(land.wrongs, leftOut, y, from, to);
                suffer(land.acts, NONE, y, from, to);
                for (int pair = from; y == 0 && pair < to; pair++) {
                    feelings[pair] = Math.max(feelings[pair] - extra[pair], DEEPEST_HATE);
                }
            }
        }

        private void fade(int y, int from, int to) {
            int thaw = (thaws >> (y - 1)) & 1;
            int base = y * MOST_PAIRS;
            for (int pair = from; pair < to; pair++) {
                int feeling = faded(feelings[base - MOST_PAIRS + pair]);
                feelings[base + pair] = feeling < 0 ? feeling + thaw : feeling;
            }
        }

        private int faded(int feeling) {
            switch (fading) {
                case 1: return feeling - signOf(feeling);
                case 2: return feeling / 2;
                case 3: return feeling < 0 ? feeling + 1 : feeling;
                default: return feeling;
            }
        }

        private static int signOf(int feeling) {
            if (feeling == 0) {
                return 0;
            }
            return feeling < 0 ? -1 : 1;
        }

        private void suffer(Deeds deeds, int but, int y, int from, int to) {
            for (int i = 0; i < deeds.size; i++) {
                int pair = deeds.sufferer[i] * MOST_PERSONS + deeds.doer[i];
                if (deeds.when[i] == y && i != but && pair >= from && pair < to) {
                    int at = y * MOST_PAIRS + pair;
                    int extent = deeds.extent[i];
                    feelings[at] = extent == 0
                        ? Math.max(feelings[at], 0) : Math.max(feelings[at] - extent, DEEPEST_HATE);
                }
            }
        }

        void weigh(int person) {
            for (int q = 0; q < land.posts; q++) {
                int writers = writersOf(person, q, land.everybody());
                words[q * MOST_PERSONS + person] = writers == NONE
                    ? NONE : hateBy(person, land.when[q], writers);
            }
        }

        void givePosts() {
            Arrays.fill(winner, NONE);
            int free = land.everybody();
            for (int y = 0; y < land.years; y++) {
                for (int q = 0; q < land.posts; q++) {
                    int who = land.when[q] == y ? foremost(q, free) : NONE;
                    if (who != NONE) {
                        winner[q] = who;
                        free &= ~(1 << who);
                    }
                }
            }
        }

        int feeling(int person, int other, int year) {
            return feelings[year * MOST_PAIRS + person * MOST_PERSONS + other];
        }

        int wordFor(int person, int post) {
            return words[post * MOST_PERSONS + person];
        }

        /** Others whose feeling towards him is of a sign (-1, 0, 1), as bits. */
        int towards(int person, int year, int sign) {
            int who = 0;
            for (int p = 0; p < land.persons; p++) {
                if (p != person && signOf(feeling(p, person, year)) == sign) {
                    who |= 1 << p;
                }
            }
            return who;
        }

        int pairsAlike(int year, int sign) {
            int n = 0;
            for (int a = 0; a < land.persons; a++) {
                for (int b = a + 1; b < land.persons; b++) {
                    boolean isSo = signOf(feeling(a, b, year)) == sign;
                    if (isSo && signOf(feeling(b, a, year)) == sign) {
                        n++;
                    }
                }
            }
            return n;
        }

        boolean isRound(int a, int b, int c, int year) {
            return feeling(a, b, year) < 0 && feeling(b, c, year) < 0 && feeling(c, a, year) < 0;
        }

        int hateBy(int person, int year, int set) {
            int sum = 0;
            for (int p = 0; p < land.persons; p++) {
                if (isIn(p, set)) {
                    sum -= Math.min(feeling(p, person, year), 0);
                }
            }
            return sum;
        }

        /** Who of a set hates him most; nobody hates himself, so he may be in it. */
        int bitterest(int person, int year, int set) {
            int who = NONE;
            int least = 0;
            for (int p = 0; p < land.persons; p++) {
                int feeling = feeling(p, person, year);
                if (isIn(p, set) && feeling < least) {
                    least = feeling;
                    who = p;
                }
            }
            return who;
        }

        int writersOf(int person, int post, int set) {
            int year = land.when[post];
            int asks = land.asks[post];
            if (year >= land.years || (asks & ~ableTo[person]) != 0) {
                return NONE;
            }
            int who = 0;
            for (int left = Integer.bitCount(asks); left > 0; left--) {
                int pen = bitterest(person, year, set & ~who);
                if (pen == NONE) {
                    return NONE;
                }
                who |= 1 << pen;
            }
            return who;
        }

        int foremost(int post, int set) {
            int who = NONE;
            int most = -1;
            for (int p = 0; p < land.persons; p++) {
                int word = wordFor(p, post);
                if (isIn(p, set) && word > most) {
                    most = word;
                    who = p;
                }
            }
            return who;
        }

        int runnerUp(int post) {
            int free = land.everybody();
            for (int q = 0; q < land.posts; q++) {
                boolean isAhead = land.when[q] < land.when[post]
                    || (land.when[q] == land.when[post] && q <= post);
                if (winner[q] != NONE && isAhead) {
                    free &= ~(1 << winner[q]);
                }
            }
            return foremost(post, free);
        }

        int times(int person, int post) {
            return winner[post] == person ? 1 : 0;
        }

        int postOf(int person) {
            for (int q = 0; q < land.posts; q++) {
                if (winner[q] == person) {
                    return q;
                }
            }
            return NONE;
        }

        int postsGiven() {
            int which = 0;
            for (int q = 0; q < land.posts; q++) {
                if (winner[q] != NONE) {
                    which |= 1 << q;
                }
            }
            return which;
        }
    }

    /** Rows of posts given so that they are worth most. */
    private static final class Choice {
        final Land land;
        final Course course;
        final int[] tried = new int[MOST_POSTS];
        final int[] firstRow = new int[MOST_POSTS];
        int most;
        int found;

        Choice(Land source, Course asItIs) {
            land = source;
            course = asItIs;
        }

        void search() {
            most = -1;
            found = 0;
            fill(0, land.everybody(), 0);
        }

        /** Goes through rows from the least on, so that the first of the best is the least. */
        private void fill(int post, int free, int sum) {
            if (post >= land.posts || post >= MOST_POSTS) {
                settle(sum);
                return;
            }
            tried[post] = NONE;
            fill(post + 1, free, sum);
            for (int p = 0; p < land.persons; p++) {
                int word = course.wordFor(p, post);
                if (isIn(p, free) && word >= 0) {
                    tried[post] = p;
                    fill(post + 1, free & ~(1 << p), sum + word + 1);
                }
            }
        }

        private void settle(int sum) {
            if (sum > most) {
                most = sum;
                found = 0;
                System.arraycopy(tried, 0, firstRow, 0, MOST_POSTS);
            }
            if (sum == most) {
                found++;
            }
        }
    }

    /** Rows of numbers; a size below 0 is a slot that has nothing. */
    private static final class Slots {
        final long[][] numbers = new long[MOST_SLOTS][MOST_NUMBERS];
        final int[] widths = new int[MOST_SLOTS];
        final int[] sizes = {-1, -1, -1, -1};

        boolean isSlot(int slot) {
            return slot >= 0 && slot < MOST_SLOTS;
        }

        int used() {
            int n = 0;
            for (int slot = 0; slot < MOST_SLOTS; slot++) {
                if (sizes[slot] >= 0) {
                    n++;
                }
            }
            return n;
        }

        void make(int slot, int width, int n) {
            Arrays.fill(numbers[slot], 0);
            widths[slot] = width;
            sizes[slot] = n;
        }

        void store(int slot, int i, long v) {
            int spare = 64 - (8 << widths[slot]);
            numbers[slot][i] = v << spare >> spare;
        }

        /** As longs: a place and a length may go beyond an int together. */
        boolean isRange(int slot, int from, int n) {
            return from >= 0 && n >= 0 && (long) from + n <= sizes[slot];
        }

        void copy(int slot, int from, int other, int to, int n) {
            System.arraycopy(numbers[slot], from, numbers[other], to, n);
        }
    }

    /** Which sets of skills of a person go with posts that were seen given. */
    private static final class Sight {
        static final int ENDS = MOST_PERSONS + 1;

        final Land land;
        final Course trial;
        final Slots slots;
        final int[] tally = new int[MOST_POSTS * ENDS];
        int found;
        int inAll;
        int inSome;

        Sight(Land source, Course whatIf, Slots rows) {
            land = source;
            trial = whatIf;
            slots = rows;
        }

        /** Whether a slot's row names posts and persons there are, two numbers each. */
        boolean isTold(int slot) {
            long[] row = slots.numbers[slot];
            int size = slots.sizes[slot];
            for (int i = 0; i + 1 < size; i += 2) {
                if (row[i] < 0 || row[i] >= land.posts || row[i + 1] < NONE || row[i + 1] >= land.persons) {
                    return false;
                }
            }
            return size % 2 == 0;
        }

        /** Whether the trial's posts are given as a told row has them. */
        boolean isSo(int slot) {
            long[] row = slots.numbers[slot];
            for (int i = 0; i + 1 < slots.sizes[slot]; i += 2) {
                if (trial.winner[(int) row[i]] != row[i + 1]) {
                    return false;
                }
            }
            return true;
        }

        void look(int slot, int person) {
            found = 0;
            inAll = ALL_SKILLS;
            inSome = 0;
            Arrays.fill(tally, 0);
            trial.reset();
            trial.run();
            for (int set = 0; set < SKILL_SETS; set++) {
                trial.ableTo[person] = set;
                trial.weigh(person);
                trial.givePosts();
                if (isSo(slot)) {
                    note(set);
                }
            }
        }

        private void note(int set) {
            found++;
            inAll &= set;
            inSome |= set;
            for (int q = 0; q < land.posts; q++) {
                tally[q * ENDS + trial.winner[q] + 1]++;
            }
        }

        int leftAtWorst(int post) {
            int worst = 0;
            for (int end = 0; end < ENDS; end++) {
                worst = Math.max(worst, tally[post * ENDS + end]);
            }
            return worst;
        }

        int tellingPost() {
            int which = NONE;
            int fewest = found;
            for (int q = 0; q < land.posts; q++) {
                int left = leftAtWorst(q);
                if (left < fewest) {
                    fewest = left;
                    which = q;
                }
            }
            return which;
        }
    }
}
