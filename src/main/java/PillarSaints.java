import java.util.Arrays;

/** Saints on pillars by seniority; ../shared/DOC.md says what each call promises. */
public final class PillarSaints {

    public static final int NONE = -1;

    private static final int MAX_PILLARS = 10;
    private static final int MAX_SAINTS = 14;
    private static final int MAX_TALL = 99;
    private static final int MAX_AGE = 120;
    private static final int MAX_FAITH = 9;
    private static final int MAX_DOCTRINE = 99;
    private static final int MAX_HUNGER = 99;
    private static final int MAX_WEATHER = 9;
    private static final int MAX_BASKET = 999;
    private static final int MAX_DAY = 9999;
    private static final int MAX_DAYS_AT_ONCE = 60;
    private static final int MAX_LINES = 16;
    private static final int MAX_TAPE = 400;
    private static final int MAX_BOOK = 150;
    private static final int MAX_BUILDS = 7;
    private static final int MAX_BUILD_DAYS = 30;
    private static final int MAX_WORTH = 30;
    private static final int MAX_UNDO = 6;
    private static final int TENETS = 16;
    private static final int MILLION = 1000000;

    private static final int NO_ADVICE = NONE - 99;
    private static final int NO_ANSWER = NONE - 99;
    private static final int NO_SUCH_PILLAR = NONE - 199;

    private static final int TEXT_LAW = 0;
    private static final int TEXT_SKY = 1;
    private static final int TEXT_PLAN = 2;
    private static final int TEXT_TENETS = 3;

    private static final int ATE = 0;
    private static final int DIED = 1;
    private static final int CLIMBED = 2;
    private static final int WENT_DOWN = 3;
    private static final int ADVICE_CAME = 4;

    private final Desert now = new Desert();
    private final Desert picture = new Desert();
    private final World thought = new World(false);
    private final Past past = new Past();
    private final Reader reader = new Reader();
    private final Lap night = new Lap();
    private final byte[] tape = new byte[MAX_TAPE];
    private int tapeLength;
    private boolean pictured;

    public PillarSaints() {
    }

    public int state(int v) {
        int was = now.world.draws;
        past.forget();
        now.world.draws = v;
        return was;
    }

    public int pillar(int tall) {
        if (tall < 1 || tall > MAX_TALL || now.world.pillars >= MAX_PILLARS) {
            return NONE;
        }
        past.forget();
        return now.world.addPillar(tall);
    }

    public int saint(int age, int faith, int doctrine) {
        boolean can = within(age, 0, MAX_AGE) && within(faith, 0, MAX_FAITH)
                && within(doctrine, -MAX_DOCTRINE, MAX_DOCTRINE);
        if (!can || now.world.saints >= MAX_SAINTS) {
            return NONE;
        }
        past.forget();
        return now.world.addSaint(age, faith, doctrine);
    }

    public boolean set(int what, int who, int v) {
        if (!now.world.change(what, who, v)) {
            return false;
        }
        past.forget();
        return true;
    }

    public boolean act(int what, int who, int v) {
        World w = now.world;
        if (!w.canDo(what, who, v)) {
            return false;
        }
        past.keep(w);
        switch (what) {
            case 0:
                w.basket = Math.min(MAX_BASKET, w.basket + v);
                break;
            case 1:
                w.say(v);
                break;
            case 2:
                w.goDown(who);
                break;
            default:
                w.raise(who, v);
                break;
        }
        return true;
    }

    public int days(int n) {
        World w = now.world;
        if (n < 1 || n > MAX_DAYS_AT_ONCE || w.day + n > MAX_DAY) {
            return NONE;
        }
        int died = 0;
        for (int i = 0; i < n; i++) {
            past.keep(w);
            died += now.passDay(w, false);
        }
        return died;
    }

    public int feed(int a, int b, int c, int d, int e) {
        if (tapeLength > MAX_TAPE - 20) {
            return NONE;
        }
        putNumber(a);
        putNumber(b);
        putNumber(c);
        putNumber(d);
        putNumber(e);
        return tapeLength;
    }

    public boolean end(int n) {
        if (n < 0 || n > tapeLength) {
            return false;
        }
        tapeLength = n;
        return true;
    }

    public int text(int k) {
        int length = tapeLength;
        tapeLength = 0;
        if (k < TEXT_LAW || k > TEXT_TENETS) {
            reader.forgetFault();
            return NONE;
        }
        int lines = reader.read(k, tape, length, now.world);
        if (lines != NONE) {
            now.takeText(k, reader);
        }
        if (lines != NONE && k == TEXT_PLAN) {
            past.forget();
        }
        return lines;
    }

    public int fault(int what) {
        if (what == 0) {
            return reader.wrong;
        }
        return what == 1 ? reader.wrongPlace : NONE;
    }

    public int of(int saint, int what) {
        World w = now.world;
        if (!w.isSaint(saint)) {
            return NO_ANSWER;
        }
        if (what >= 7 && what <= 9) {
            return now.law.tells(what - 7, w, saint);
        }
        return w.ofSaint(saint, what);
    }

    public int at(int pillar, int what) {
        World w = now.world;
        if (!w.isPillar(pillar)) {
            return NO_SUCH_PILLAR;
        }
        switch (what) {
            case 0:
                return w.tall[pillar];
            case 1:
                return w.sitter[pillar];
            case 2:
                return w.advice[pillar];
            default:
                return NO_SUCH_PILLAR;
        }
    }

    public int sky(int day) {
        return now.sky.weatherOn(day);
    }

    public int book(int i, int what) {
        if (i < 0 || i >= now.world.lines || what < 0 || what > 3) {
            return NO_ANSWER;
        }
        return now.world.cell(i, what);
    }

    public int goes(int n, int what) {
        if (n < 1 || n > MAX_DAYS_AT_ONCE || what < 0 || what > 3) {
            return NO_ANSWER;
        }
        thought.copyFrom(now.world);
        for (int i = 0; i < n; i++) {
            now.passDay(thought, true);
        }
        switch (what) {
            case 0:
                return Integer.bitCount(thought.dead);
            case 1:
                return thought.left;
            case 2:
                return thought.hungerOfLiving();
            default:
                return thought.lastAdvice();
        }
    }

    public int loaves() {
        World w = now.world;
        int sum = 0;
        for (int p = 0; p < w.pillars; p++) {
            int who = w.sitterOn(p);
            if (who != NONE) {
                sum += now.law.tells(Law.EATS, w, who);
            }
        }
        return sum;
    }

    public int heir(int n) {
        if (n < 0 || n >= MAX_SAINTS) {
            return NONE;
        }
        thought.copyFrom(now.world);
        for (int i = 0; i < n; i++) {
            thought.bury(thought.sitterOn(thought.highest()));
            thought.climb();
        }
        return thought.sitterOn(thought.highest());
    }

    public int comes(int v, int pillar) {
        World w = now.world;
        int top = w.highest();
        if (!within(v, -MAX_DOCTRINE, MAX_DOCTRINE) || !w.isPillar(pillar) || pillar > top) {
            return NO_ANSWER;
        }
        int advice = v;
        for (int p = top - 1; p >= pillar; p--) {
            advice = now.adviceAt(w, p, advice);
        }
        return advice;
    }

    public int scandal(int what) {
        if (what != 0 && what != 1) {
            return NONE;
        }
        int best = NONE;
        int bestBelow = NONE;
        int sitting = now.world.sitting();
        for (int below = 1; below < sitting; below++) {
            int sum = now.world.spread(0, below) + now.world.spread(below, sitting);
            if (best == NONE || sum < best) {
                best = sum;
                bestBelow = below;
            }
        }
        return what == 0 ? bestBelow : best;
    }

    public int middle(int what) {
        if (what != 0 && what != 1) {
            return NONE;
        }
        int best = NONE;
        int bestPillar = NONE;
        for (int p = 0; p < now.world.pillars; p++) {
            int way = now.world.wayTo(p);
            if (best == NONE || way < best) {
                best = way;
                bestPillar = p;
            }
        }
        return what == 0 ? bestPillar : best;
    }

    public int follows(int tenets) {
        if (tenets < 0 || tenets >= 1 << TENETS) {
            return NONE;
        }
        return now.tenets.closure(tenets, NONE);
    }

    public int gives(int tenet, int what) {
        if (what == 2) {
            return now.tenets.idle();
        }
        if (tenet < 0 || tenet >= TENETS || what < 0 || what > 1) {
            return NONE;
        }
        int fewest = now.tenets.fewestFor(tenet);
        if (fewest == 0) {
            return NONE;
        }
        return what == 0 ? Integer.bitCount(fewest) : fewest;
    }

    public int seen(int what) {
        switch (what) {
            case 0:
                return now.world.seenFrom(false);
            case 1:
                return now.world.seenFrom(true);
            case 2:
                return now.world.storks();
            default:
                return NONE;
        }
    }

    public int hears(int pillar, int what) {
        World w = now.world;
        if (!w.isPillar(pillar) || what < 0 || what > 1) {
            return NONE;
        }
        int heard = 0;
        int farthest = NONE;
        for (int p = 0; p < w.pillars; p++) {
            if (p != pillar && w.hearOneAnother(pillar, p)) {
                heard++;
                if (farthest == NONE || Math.abs(p - pillar) > Math.abs(farthest - pillar)) {
                    farthest = p;
                }
            }
        }
        return what == 0 ? heard : farthest;
    }

    public int build(int days, int worth) {
        if (days == NONE) {
            now.yard.count = 0;
            return 0;
        }
        if (!within(days, 1, MAX_BUILD_DAYS) || !within(worth, 1, MAX_WORTH)) {
            return NONE;
        }
        return now.yard.tell(days, worth);
    }

    public int builds(int what) {
        if (what == 0) {
            return now.yard.leastSum();
        }
        if (what < 10 || what >= 10 + now.yard.count) {
            return NONE;
        }
        return now.yard.inOrder(what - 10);
    }

    public int gone(int p, int n, int m) {
        if (!within(p, 0, 1000) || !within(n, 0, 20) || !within(m, n, 40)) {
            return NONE;
        }
        long q = p * 1000L;
        for (int i = 0; i < n; i++) {
            q = weighed(q, 8, 2);
        }
        for (int i = n; i < m; i++) {
            q = weighed(q, 2, 8);
        }
        return (int) q;
    }

    public int lap(int a, int b, int d, int what) {
        World w = now.world;
        if (!w.isPillar(a) || !w.isPillar(b) || !within(d, 0, 99) || what < 0 || what > 1) {
            return NONE;
        }
        night.walk(w, a, d);
        if (night.steps[b] == NONE) {
            return NONE;
        }
        return what == 0 ? night.steps[b] : night.ways[b];
    }

    public int game(int what) {
        if (what != 0 && what != 1) {
            return NONE;
        }
        World w = now.world;
        int all = 0;
        for (int p = 0; p < w.pillars; p++) {
            all ^= w.nimber(p, 0);
        }
        for (int p = 0; p < w.pillars; p++) {
            int most = Math.min(p + 1, w.heap(p));
            for (int take = 1; take <= most; take++) {
                if ((all ^ w.nimber(p, 0) ^ w.nimber(p, take)) == 0) {
                    return what == 0 ? p : take;
                }
            }
        }
        return NONE;
    }

    public boolean undo() {
        return past.goBack(now.world);
    }

    public boolean image(boolean taken) {
        if (taken) {
            picture.copyFrom(now);
            pictured = true;
            return true;
        }
        if (!pictured) {
            return false;
        }
        now.copyFrom(picture);
        past.forget();
        return true;
    }

    public int look(int what) {
        switch (what) {
            case 10:
                return now.law.count;
            case 11:
                return now.sky.count;
            case 12:
                return now.plan.count;
            case 13:
                return now.tenets.count;
            case 14:
                return now.yard.count;
            case 15:
                return past.count;
            default:
                return now.world.shown(what);
        }
    }

    private void putNumber(int number) {
        for (int shift = 24; shift >= 0; shift -= 8) {
            if (tapeLength < MAX_TAPE) {
                tape[tapeLength] = (byte) (number >>> shift);
                tapeLength++;
            }
        }
    }

    private static long weighed(long q, int ifGone, int ifNot) {
        long part = q * ifGone;
        long whole = part + (MILLION - q) * ifNot;
        return whole <= 0 ? 0 : part * MILLION / whole;
    }

    private static boolean within(int v, int low, int high) {
        return v >= low && v <= high;
    }

    private static int held(int v, int low, int high) {
        return Math.max(low, Math.min(high, v));
    }

    /** All that THE IMAGE keeps. */
    private static final class Desert {
        final World world = new World(true);
        final Law law = new Law();
        final Sky sky = new Sky();
        final Plan plan = new Plan();
        final Tenets tenets = new Tenets();
        final Yard yard = new Yard();

        void copyFrom(Desert other) {
            world.copyFrom(other.world);
            law.copyFrom(other.law);
            sky.copyFrom(other.sky);
            plan.copyFrom(other.plan);
            tenets.copyFrom(other.tenets);
            yard.copyFrom(other.yard);
        }

        void takeText(int k, Reader reader) {
            switch (k) {
                case TEXT_LAW:
                    law.copyFrom(reader.law);
                    break;
                case TEXT_SKY:
                    sky.copyFrom(reader.sky);
                    break;
                case TEXT_PLAN:
                    plan.copyFrom(reader.plan);
                    break;
                default:
                    tenets.copyFrom(reader.tenets);
                    break;
            }
        }

        /** A DAY for this or a thought world; answers how many died. */
        int passDay(World w, boolean inThought) {
            plan.carryOut(w);
            int told = sky.weatherOn(w.day);
            if (told != NONE) {
                w.weather = told;
            }
            lowerBasket(w);
            w.hungerOnGround();
            lowerAdvice(w);
            leanAll(w);
            int died = letDie(w, inThought);
            w.climb();
            w.day++;
            return died;
        }

        private void lowerBasket(World w) {
            for (int p = w.pillars - 1; p >= 0; p--) {
                int who = w.sitterOn(p);
                if (who != NONE) {
                    w.eat(who, law.tells(Law.EATS, w, who));
                }
            }
            w.left += w.basket;
            w.basket = 0;
        }

        private void lowerAdvice(World w) {
            if (w.pillars > 0) {
                w.advice[0] = NO_ADVICE;
            }
            for (int p = 0; p + 1 < w.pillars; p++) {
                int above = w.advice[p + 1];
                if (above != NO_ADVICE) {
                    w.advice[p] = adviceAt(w, p, above);
                    w.advice[p + 1] = NO_ADVICE;
                    w.note(ADVICE_CAME, p, w.advice[p]);
                }
            }
        }

        /** What advice becomes when it comes to a pillar from the next one above. */
        int adviceAt(World w, int pillar, int advice) {
            int who = w.sitterOn(pillar);
            if (who == NONE) {
                return advice;
            }
            int more = Math.floorDiv(law.tells(Law.LEANS, w, who), 9);
            return held(advice + more, -MAX_DOCTRINE, MAX_DOCTRINE);
        }

        private void leanAll(World w) {
            for (int p = 0; p < w.pillars; p++) {
                int who = w.sitterOn(p);
                if (w.isSaint(who)) {
                    int leant = w.doctrine[who] + law.tells(Law.LEANS, w, who);
                    w.doctrine[who] = held(leant, -MAX_DOCTRINE, MAX_DOCTRINE);
                }
            }
        }

        private int letDie(World w, boolean inThought) {
            int died = 0;
            for (int s = 0; s < w.saints; s++) {
                if (w.isDead(s)) {
                    continue;
                }
                w.age[s] = Math.min(MAX_AGE, w.age[s] + 1);
                int dies = law.tells(Law.DIES, w, s);
                boolean falls = inThought ? dies >= 500 : dies > 0 && w.draw(1000) < dies;
                if (falls) {
                    w.note(DIED, s, w.age[s]);
                    w.bury(s);
                    died++;
                }
            }
            return died;
        }
    }

    /** Pillars, saints and what changes by days: what UNDO brings back. */
    private static final class World {
        /** THE BOOK, four to a line; without room where nothing is written down: in thought and in the past. */
        private final int[] written;
        final int[] tall = new int[MAX_PILLARS];
        final int[] sitter = new int[MAX_PILLARS];
        final int[] advice = new int[MAX_PILLARS];
        final int[] age = new int[MAX_SAINTS];
        final int[] faith = new int[MAX_SAINTS];
        final int[] doctrine = new int[MAX_SAINTS];
        final int[] hunger = new int[MAX_SAINTS];
        private final int[] ground = new int[MAX_SAINTS];
        private int grounded;
        int pillars;
        int saints;
        int dead;
        int basket;
        int weather;
        int day;
        int left;
        int draws;
        int lines;

        World(boolean writes) {
            written = new int[writes ? MAX_BOOK * 4 : 0];
            Arrays.fill(sitter, NONE);
            Arrays.fill(advice, NO_ADVICE);
        }

        /** The past needs no rows of THE BOOK: until it is gone back to, they only grow. */
        void copyFrom(World w) {
            System.arraycopy(w.written, 0, written, 0, Math.min(w.written.length, written.length));
            System.arraycopy(w.tall, 0, tall, 0, MAX_PILLARS);
            System.arraycopy(w.sitter, 0, sitter, 0, MAX_PILLARS);
            System.arraycopy(w.advice, 0, advice, 0, MAX_PILLARS);
            System.arraycopy(w.age, 0, age, 0, MAX_SAINTS);
            System.arraycopy(w.faith, 0, faith, 0, MAX_SAINTS);
            System.arraycopy(w.doctrine, 0, doctrine, 0, MAX_SAINTS);
            System.arraycopy(w.hunger, 0, hunger, 0, MAX_SAINTS);
            System.arraycopy(w.ground, 0, ground, 0, MAX_SAINTS);
            grounded = w.grounded;
            pillars = w.pillars;
            saints = w.saints;
            dead = w.dead;
            basket = w.basket;
            weather = w.weather;
            day = w.day;
            left = w.left;
            draws = w.draws;
            lines = w.lines;
        }

        boolean isPillar(int p) {
            return p >= 0 && p < pillars;
        }

        boolean isSaint(int s) {
            return s >= 0 && s < saints;
        }

        boolean isDead(int s) {
            return (dead >> s & 1) != 0;
        }

        int sitterOn(int p) {
            return isPillar(p) ? sitter[p] : NONE;
        }

        int pillarOf(int s) {
            for (int p = 0; p < pillars; p++) {
                if (sitter[p] == s && s != NONE) {
                    return p;
                }
            }
            return NONE;
        }

        private int aheadOnGround(int s) {
            for (int i = 0; i < grounded; i++) {
                if (ground[i] == s) {
                    return i;
                }
            }
            return NONE;
        }

        /** The highest pillar on which one sits. */
        int highest() {
            for (int p = pillars - 1; p >= 0; p--) {
                if (sitter[p] != NONE) {
                    return p;
                }
            }
            return NONE;
        }

        int addPillar(int height) {
            if (pillars >= MAX_PILLARS) {
                return NONE;
            }
            int number = pillars;
            tall[number] = height;
            sitter[number] = NONE;
            advice[number] = NO_ADVICE;
            pillars++;
            climb();
            return number;
        }

        int addSaint(int years, int belief, int teaching) {
            if (saints >= MAX_SAINTS) {
                return NONE;
            }
            int number = saints;
            age[number] = years;
            faith[number] = belief;
            doctrine[number] = teaching;
            hunger[number] = 0;
            saints++;
            joinGround(number);
            climb();
            return number;
        }

        boolean change(int what, int who, int v) {
            if (what == 4) {
                if (!within(v, 0, MAX_WEATHER)) {
                    return false;
                }
                weather = v;
                return true;
            }
            if (!isSaint(who)) {
                return false;
            }
            if (what == 0 && within(v, 0, MAX_AGE)) {
                age[who] = v;
            } else if (what == 1 && within(v, 0, MAX_FAITH)) {
                faith[who] = v;
            } else if (what == 2 && within(v, -MAX_DOCTRINE, MAX_DOCTRINE)) {
                doctrine[who] = v;
            } else if (what == 3 && within(v, 0, MAX_HUNGER)) {
                hunger[who] = v;
            } else {
                return false;
            }
            return true;
        }

        boolean canDo(int what, int who, int v) {
            switch (what) {
                case 0:
                    return within(v, 1, MAX_BASKET);
                case 1:
                    return within(v, -MAX_DOCTRINE, MAX_DOCTRINE) && highest() != NONE;
                case 2:
                    return pillarOf(who) != NONE;
                case 3:
                    return isPillar(who) && within(v, 1, MAX_TALL);
                default:
                    return false;
            }
        }

        void say(int v) {
            int top = highest();
            if (top != NONE) {
                advice[top] = v;
            }
        }

        void raise(int pillar, int height) {
            if (isPillar(pillar)) {
                tall[pillar] = height;
            }
        }

        void goDown(int s) {
            int p = pillarOf(s);
            if (p != NONE) {
                note(WENT_DOWN, s, p);
                sitter[p] = NONE;
                joinGround(s);
                climb();
            }
        }

        void curse(int s) {
            if (isSaint(s) && !isDead(s)) {
                hunger[s] = MAX_HUNGER;
            }
        }

        private void joinGround(int s) {
            if (grounded < MAX_SAINTS) {
                ground[grounded] = s;
                grounded++;
            }
        }

        private void leaveGround(int place) {
            if (place < 0 || place >= grounded) {
                return;
            }
            grounded--;
            for (int i = place; i < grounded; i++) {
                ground[i] = ground[i + 1];
            }
        }

        void climb() {
            for (int p = pillars - 1; p >= 0; p--) {
                if (sitter[p] == NONE) {
                    int who = nextBelow(p);
                    if (who == NONE) {
                        return;
                    }
                    sitter[p] = who;
                    note(CLIMBED, who, p);
                }
            }
        }

        /** Takes away who is to climb to a pillar: from the next lower one, else from the ground. */
        private int nextBelow(int pillar) {
            for (int p = pillar - 1; p >= 0; p--) {
                int who = sitter[p];
                if (who != NONE) {
                    sitter[p] = NONE;
                    return who;
                }
            }
            if (grounded == 0) {
                return NONE;
            }
            int first = ground[0];
            leaveGround(0);
            return first;
        }

        void bury(int s) {
            if (!isSaint(s)) {
                return;
            }
            int p = pillarOf(s);
            if (p != NONE) {
                sitter[p] = NONE;
            }
            leaveGround(aheadOnGround(s));
            dead |= 1 << s;
        }

        void eat(int s, int eats) {
            if (!isSaint(s)) {
                return;
            }
            int took = Math.min(eats, basket);
            basket -= took;
            if (took == eats) {
                hunger[s] = Math.max(0, hunger[s] - 10);
            } else {
                hunger[s] = Math.min(MAX_HUNGER, hunger[s] + (eats - took) * 5);
            }
            if (took > 0) {
                note(ATE, s, took);
            }
        }

        void hungerOnGround() {
            for (int i = 0; i < grounded; i++) {
                int s = ground[i];
                if (isSaint(s)) {
                    hunger[s] = Math.min(MAX_HUNGER, hunger[s] + 1);
                }
            }
        }

        int draw(int m) {
            draws = 1664525 * draws + 1013904223;
            return m <= 0 ? 0 : (draws >>> 8) % m;
        }

        void note(int what, int which, int much) {
            int at = lines * 4;
            if (lines < 0 || at + 3 >= written.length) {
                return;
            }
            written[at] = day;
            written[at + 1] = what;
            written[at + 2] = which;
            written[at + 3] = much;
            lines++;
        }

        int cell(int line, int what) {
            int at = line * 4 + what;
            return at >= 0 && at < written.length ? written[at] : NO_ANSWER;
        }

        /** The doctrine of who sits next above a saint; his own, if nobody does. */
        int doctrineAbove(int s) {
            boolean passed = false;
            for (int p = 0; p < pillars; p++) {
                int who = sitter[p];
                if (passed && who >= 0 && who < saints) {
                    return doctrine[who];
                }
                if (who == s) {
                    passed = true;
                }
            }
            return s >= 0 && s < saints ? doctrine[s] : 0;
        }

        int ofSaint(int s, int what) {
            if (!isSaint(s)) {
                return NO_ANSWER;
            }
            switch (what) {
                case 0:
                    return age[s];
                case 1:
                    return faith[s];
                case 2:
                    return doctrine[s];
                case 3:
                    return hunger[s];
                case 4:
                    return isDead(s) ? 1 : 0;
                case 5:
                    return pillarOf(s);
                case 6:
                    return aheadOnGround(s);
                default:
                    return NO_ANSWER;
            }
        }

        int shown(int what) {
            switch (what) {
                case 0:
                    return pillars;
                case 1:
                    return saints;
                case 2:
                    return day;
                case 3:
                    return basket;
                case 4:
                    return left;
                case 5:
                    return weather;
                case 6:
                    return dead;
                case 7:
                    return grounded;
                case 8:
                    return lines;
                case 9:
                    return draws;
                default:
                    return NONE;
            }
        }

        int hungerOfLiving() {
            int sum = 0;
            for (int s = 0; s < saints; s++) {
                if (!isDead(s)) {
                    sum += hunger[s];
                }
            }
            return sum;
        }

        int lastAdvice() {
            return pillars == 0 || advice[0] == NO_ADVICE ? 0 : advice[0];
        }

        int sitting() {
            int count = 0;
            for (int p = 0; p < pillars; p++) {
                if (sitter[p] != NONE) {
                    count++;
                }
            }
            return count;
        }

        /** How far apart the doctrines are of those who sit as the from-th up to ahead of the to-th. */
        int spread(int from, int to) {
            int least = MAX_DOCTRINE;
            int greatest = -MAX_DOCTRINE;
            int index = 0;
            for (int p = 0; p < pillars; p++) {
                int who = sitter[p];
                if (!isSaint(who)) {
                    continue;
                }
                if (index >= from && index < to) {
                    least = Math.min(least, doctrine[who]);
                    greatest = Math.max(greatest, doctrine[who]);
                }
                index++;
            }
            return greatest - least;
        }

        int wayTo(int pillar) {
            int sum = 0;
            for (int p = 0; p < pillars; p++) {
                if (sitter[p] != NONE && isPillar(pillar)) {
                    sum += Math.abs(tall[p] - tall[pillar]);
                }
            }
            return sum;
        }

        int seenFrom(boolean last) {
            int count = 0;
            int tallest = 0;
            for (int i = 0; i < pillars; i++) {
                int p = last ? pillars - 1 - i : i;
                if (tall[p] > tallest) {
                    tallest = tall[p];
                    count++;
                }
            }
            return count;
        }

        int storks() {
            int set = 0;
            for (int p = 0; p < pillars; p++) {
                boolean aboveLower = p == 0 || tall[p] > tall[p - 1];
                boolean aboveHigher = p + 1 >= pillars || tall[p] > tall[p + 1];
                if (aboveLower && aboveHigher) {
                    set |= 1 << p;
                }
            }
            return set;
        }

        boolean hearOneAnother(int a, int b) {
            if (!isPillar(a) || !isPillar(b)) {
                return false;
            }
            int lower = Math.min(tall[a], tall[b]);
            int to = Math.max(a, b);
            for (int p = Math.min(a, b) + 1; p < to; p++) {
                if (tall[p] >= lower) {
                    return false;
                }
            }
            return true;
        }

        /** How many GAME finds on a pillar. */
        int heap(int p) {
            int who = sitterOn(p);
            return isSaint(who) ? Math.abs(doctrine[who]) : 0;
        }

        /** What a heap counts in the game once so many were taken: a turn takes up to p + 1 of it. */
        int nimber(int p, int taken) {
            return p < 0 ? 0 : Math.max(0, heap(p) - taken) % (p + 2);
        }
    }

    /** The latest worlds to which UNDO goes back. */
    private static final class Past {
        private final World[] kept = new World[MAX_UNDO];
        int count;

        Past() {
            for (int i = 0; i < MAX_UNDO; i++) {
                kept[i] = new World(false);
            }
        }

        void keep(World w) {
            if (count >= MAX_UNDO) {
                forgetOldest();
            }
            World place = kept[count];
            if (place != null) {
                place.copyFrom(w);
                count++;
            }
        }

        private void forgetOldest() {
            World oldest = kept[0];
            for (int i = 0; i + 1 < MAX_UNDO; i++) {
                kept[i] = kept[i + 1];
            }
            kept[MAX_UNDO - 1] = oldest;
            count = MAX_UNDO - 1;
        }

        void forget() {
            count = 0;
        }

        boolean goBack(World w) {
            if (count <= 0) {
                return false;
            }
            count--;
            World latest = kept[count];
            if (latest != null) {
                w.copyFrom(latest);
            }
            return true;
        }
    }

    /** THE LAW, its formulas as postfix code: numbers as they are, all else below 0. */
    private static final class Law {
        static final int EATS = 0;
        static final int DIES = 1;
        static final int LEANS = 2;

        static final int ADD = -1;
        static final int SUBTRACT = -2;
        static final int MULTIPLY = -3;
        static final int DIVIDE = -4;
        static final int LESS = -5;
        static final int EQUAL = -6;
        static final int GREATER = -7;
        static final int AND = -8;
        static final int OR = -9;
        static final int NOT = -10;
        /** The names, as many below this as their keyword's number tells. */
        static final int NAMES = -100;

        private final int[] code = new int[MAX_TAPE];
        private final int[] word = new int[MAX_LINES];
        private final int[] start = new int[MAX_LINES];
        private final int[] when = new int[MAX_LINES];
        private final int[] stop = new int[MAX_LINES];
        /** Two for each of the 9 levels of conditions, four for a comparison, and some more. */
        private final int[] stack = new int[32];
        private int length;
        int count;

        void clear() {
            count = 0;
            length = 0;
        }

        void copyFrom(Law other) {
            System.arraycopy(other.code, 0, code, 0, MAX_TAPE);
            System.arraycopy(other.word, 0, word, 0, MAX_LINES);
            System.arraycopy(other.start, 0, start, 0, MAX_LINES);
            System.arraycopy(other.when, 0, when, 0, MAX_LINES);
            System.arraycopy(other.stop, 0, stop, 0, MAX_LINES);
            length = other.length;
            count = other.count;
        }

        void openLine(int keyword) {
            if (count < MAX_LINES) {
                word[count] = keyword;
                start[count] = length;
            }
        }

        void markWhen() {
            if (count < MAX_LINES) {
                when[count] = length;
            }
        }

        void closeLine() {
            if (count < MAX_LINES) {
                stop[count] = length;
                count++;
            }
        }

        void emit(int operation) {
            if (length < MAX_TAPE) {
                code[length] = operation;
                length++;
            }
        }

        /** What THE LAW tells of a saint for a word. */
        int tells(int keyword, World w, int s) {
            if (!w.isSaint(s)) {
                return 0;
            }
            for (int i = 0; i < count; i++) {
                if (word[i] == keyword && (when[i] == stop[i] || run(when[i], stop[i], w, s) != 0)) {
                    return bounded(keyword, run(start[i], when[i], w, s));
                }
            }
            return bounded(keyword, usual(keyword, w, s));
        }

        private static int bounded(int keyword, int v) {
            switch (keyword) {
                case EATS:
                    return held(v, 0, 99);
                case DIES:
                    return held(v, 0, 1000);
                default:
                    return held(v, -99, 99);
            }
        }

        private static int usual(int keyword, World w, int s) {
            if (!w.isSaint(s)) {
                return 0;
            }
            switch (keyword) {
                case EATS:
                    return 1 + w.hunger[s] / 20;
                case DIES:
                    return Math.max(0, w.age[s] - 70) * 5 + Math.max(0, w.hunger[s] - 80) * 20;
                default:
                    return Math.floorDiv(w.doctrineAbove(s) - w.doctrine[s], 4);
            }
        }

        private int run(int from, int to, World w, int s) {
            int top = 0;
            for (int i = Math.max(0, from); i < to && i < MAX_TAPE; i++) {
                int operation = code[i];
                if (operation >= 0 || operation <= NAMES) {
                    if (top < stack.length) {
                        stack[top] = operation >= 0 ? operation : named(NAMES - operation, w, s);
                        top++;
                    }
                } else if (operation == NOT) {
                    if (top >= 1 && top <= stack.length) {
                        stack[top - 1] = 1 - stack[top - 1];
                    }
                } else if (top >= 2 && top <= stack.length) {
                    top--;
                    stack[top - 1] = joined(operation, stack[top - 1], stack[top]);
                }
            }
            return top > 0 ? stack[0] : 0;
        }

        private static int joined(int operation, int a, int b) {
            switch (operation) {
                case ADD:
                    return a + b;
                case SUBTRACT:
                    return a - b;
                case MULTIPLY:
                    return a * b;
                case DIVIDE:
                    return b == 0 ? 0 : a / b;
                case LESS:
                    return a < b ? 1 : 0;
                case EQUAL:
                    return a == b ? 1 : 0;
                case GREATER:
                    return a > b ? 1 : 0;
                case AND:
                    return a & b;
                default:
                    return a | b;
            }
        }

        private static int named(int name, World w, int s) {
            if (!w.isSaint(s)) {
                return 0;
            }
            int p = w.pillarOf(s);
            switch (name) {
                case Tokens.AGE:
                    return w.age[s];
                case Tokens.FAITH:
                    return w.faith[s];
                case Tokens.DOCTRINE:
                    return w.doctrine[s];
                case Tokens.HUNGER:
                    return w.hunger[s];
                case Tokens.PLACE:
                    return p + 1;
                case Tokens.TALL:
                    return p == NONE ? 0 : w.tall[p];
                case Tokens.WEATHER:
                    return w.weather;
                case Tokens.ABOVE:
                    return w.doctrineAbove(s);
                default:
                    return w.day;
            }
        }
    }

    private static final class Sky {
        private final int[] day = new int[MAX_LINES];
        private final int[] weather = new int[MAX_LINES];
        int count;

        void copyFrom(Sky other) {
            System.arraycopy(other.day, 0, day, 0, MAX_LINES);
            System.arraycopy(other.weather, 0, weather, 0, MAX_LINES);
            count = other.count;
        }

        void add(int when, int what) {
            if (count < MAX_LINES) {
                day[count] = when;
                weather[count] = what;
                count++;
            }
        }

        int weatherOn(int when) {
            for (int i = count - 1; i >= 0; i--) {
                if (day[i] == when) {
                    return weather[i];
                }
            }
            return NONE;
        }
    }

    private static final class Plan {
        private final int[] day = new int[MAX_LINES];
        private final int[] deed = new int[MAX_LINES];
        private final int[] who = new int[MAX_LINES];
        private final int[] much = new int[MAX_LINES];
        int count;

        void copyFrom(Plan other) {
            System.arraycopy(other.day, 0, day, 0, MAX_LINES);
            System.arraycopy(other.deed, 0, deed, 0, MAX_LINES);
            System.arraycopy(other.who, 0, who, 0, MAX_LINES);
            System.arraycopy(other.much, 0, much, 0, MAX_LINES);
            count = other.count;
        }

        void add(int when, int what, int whom, int howMuch) {
            if (count < MAX_LINES) {
                day[count] = when;
                deed[count] = what;
                who[count] = whom;
                much[count] = howMuch;
                count++;
            }
        }

        void carryOut(World w) {
            int today = w.day;
            for (int i = 0; i < count; i++) {
                if (day[i] == today) {
                    carryOutLine(i, w);
                }
            }
        }

        private void carryOutLine(int i, World w) {
            if (i < 0 || i >= MAX_LINES) {
                return;
            }
            switch (deed[i]) {
                case Tokens.LOAVES:
                    w.basket = much[i];
                    break;
                case Tokens.SAY:
                    w.say(much[i]);
                    break;
                case Tokens.DOWN:
                    w.goDown(who[i]);
                    break;
                case Tokens.BUILD:
                    w.raise(who[i], much[i]);
                    break;
                default:
                    w.curse(who[i]);
                    break;
            }
        }
    }

    private static final class Tenets {
        private final int[] given = new int[MAX_LINES];
        private final int[] told = new int[MAX_LINES];
        int count;

        void copyFrom(Tenets other) {
            System.arraycopy(other.given, 0, given, 0, MAX_LINES);
            System.arraycopy(other.told, 0, told, 0, MAX_LINES);
            count = other.count;
        }

        /** Both are sets; what is told is a set of one. */
        void add(int from, int what) {
            if (count < MAX_LINES) {
                given[count] = from;
                told[count] = what;
                count++;
            }
        }

        /** All that follows from a set, by all lines but one (NONE: by all). */
        int closure(int set, int without) {
            int all = set;
            boolean grown = true;
            for (int round = 0; round <= TENETS && grown; round++) {
                int ahead = all;
                for (int i = 0; i < count; i++) {
                    if (i != without && (given[i] & ~all) == 0) {
                        all |= told[i];
                    }
                }
                grown = all != ahead;
            }
            return all;
        }

        int idle() {
            int lines = 0;
            for (int i = 0; i < count; i++) {
                if ((closure(given[i], i) & told[i]) != 0) {
                    lines++;
                }
            }
            return lines;
        }

        /** The least of the smallest sets without a tenet from which it follows; 0: none. */
        int fewestFor(int tenet) {
            int goal = 1 << tenet;
            int useful = leadingTo(goal) & ~goal;
            if ((closure(useful, NONE) & goal) == 0) {
                return 0;
            }
            int must = neededOf(useful, goal);
            int free = useful & ~must;
            int best = useful;
            int part = 0;
            // the parts of what is free come by size of number, so the first of a size is the least
            for (int i = 0; i < 1 << TENETS; i++) {
                int set = must | part;
                boolean fewer = Integer.bitCount(set) < Integer.bitCount(best);
                if (fewer && (closure(set, NONE) & goal) != 0) {
                    best = set;
                }
                if (part == free) {
                    break;
                }
                part = (part - free) & free;
            }
            return best;
        }

        /** Tenets that could be of use on a way to the goal. */
        private int leadingTo(int goal) {
            int wanted = goal;
            boolean grown = true;
            for (int round = 0; round <= TENETS && grown; round++) {
                int ahead = wanted;
                for (int i = 0; i < count; i++) {
                    if ((told[i] & wanted) != 0) {
                        wanted |= given[i];
                    }
                }
                grown = wanted != ahead;
            }
            return wanted;
        }

        /** Those without which the goal does not follow even from all others: they spare most of the search. */
        private int neededOf(int useful, int goal) {
            int needed = 0;
            for (int t = 0; t < TENETS; t++) {
                int bit = 1 << t;
                if ((useful & bit) != 0 && (closure(useful & ~bit, NONE) & goal) == 0) {
                    needed |= bit;
                }
            }
            return needed;
        }
    }

    /** What was told of BUILDS. */
    private static final class Yard {
        private final int[] days = new int[MAX_BUILDS];
        private final int[] worth = new int[MAX_BUILDS];
        private final int[] order = new int[MAX_BUILDS];
        int count;

        void copyFrom(Yard other) {
            System.arraycopy(other.days, 0, days, 0, MAX_BUILDS);
            System.arraycopy(other.worth, 0, worth, 0, MAX_BUILDS);
            count = other.count;
        }

        int tell(int howLong, int howMuch) {
            if (count >= MAX_BUILDS) {
                return NONE;
            }
            days[count] = howLong;
            worth[count] = howMuch;
            count++;
            return count;
        }

        /** Least days for a worth first is best; equal ones in their order make it the first of the best. */
        private void arrange() {
            for (int i = 0; i < count; i++) {
                int place = i;
                for (int j = i; j > 0 && isBefore(i, order[j - 1]); j--) {
                    order[j] = order[j - 1];
                    place = j - 1;
                }
                order[place] = i;
            }
        }

        private boolean isBefore(int a, int b) {
            if (a < 0 || b < 0 || a >= count || b >= count) {
                return false;
            }
            return days[a] * worth[b] < days[b] * worth[a];
        }

        int leastSum() {
            arrange();
            int day = 0;
            int sum = 0;
            for (int i = 0; i < count; i++) {
                int which = order[i];
                if (which >= 0 && which < count) {
                    day += days[which];
                    sum += worth[which] * day;
                }
            }
            return sum;
        }

        int inOrder(int i) {
            arrange();
            return i >= 0 && i < count ? order[i] : NONE;
        }
    }

    /** A LAP's fewest steps from one pillar to each, and in how many ways. */
    private static final class Lap {
        private static final int MODULUS = 1000000007;
        final int[] steps = new int[MAX_PILLARS];
        final int[] ways = new int[MAX_PILLARS];

        void walk(World w, int from, int apart) {
            Arrays.fill(steps, NONE);
            Arrays.fill(ways, 0);
            if (!w.isPillar(from)) {
                return;
            }
            steps[from] = 0;
            ways[from] = 1;
            for (int step = 0; step < MAX_PILLARS; step++) {
                for (int p = 0; p < w.pillars; p++) {
                    if (steps[p] == step) {
                        spread(w, p, apart);
                    }
                }
            }
        }

        private void spread(World w, int p, int apart) {
            for (int q = p - 2; q <= p + 2; q++) {
                if (q == p || !w.isPillar(q) || Math.abs(w.tall[p] - w.tall[q]) > apart) {
                    continue;
                }
                if (steps[q] == NONE) {
                    steps[q] = steps[p] + 1;
                }
                if (steps[q] == steps[p] + 1) {
                    ways[q] = (int) (((long) ways[q] + ways[p]) % MODULUS);
                }
            }
        }
    }

    /** A text cut into tokens; the last is always the end. */
    private static final class Tokens {
        static final int END = 200;
        static final int NUMBER = 201;
        static final int UNKNOWN = 202;
        /** The keywords of a text, as many above this as their place in its list. */
        static final int WORD = 300;

        static final String LAW_WORDS = "eats dies leans when or and not age faith doctrine hunger place tall weather above day ";
        static final int WHEN = 3;
        static final int OR = 4;
        static final int AND = 5;
        static final int NOT = 6;
        static final int AGE = 7;
        static final int FAITH = 8;
        static final int DOCTRINE = 9;
        static final int HUNGER = 10;
        static final int PLACE = 11;
        static final int TALL = 12;
        static final int WEATHER = 13;
        static final int ABOVE = 14;
        static final int LAW_DAY = 15;

        static final String SKY_WORDS = "day is ";
        static final int SKY_DAY = 0;
        static final int IS = 1;

        static final String PLAN_WORDS = "on loaves say down build curse ";
        static final int ON = 0;
        static final int LOAVES = 1;
        static final int SAY = 2;
        static final int DOWN = 3;
        static final int BUILD = 4;
        static final int CURSE = 5;

        static final String TENET_WORDS = "and so ";
        static final int TENET_AND = 0;
        static final int SO = 1;

        final int[] kind = new int[MAX_TAPE + 1];
        final int[] number = new int[MAX_TAPE + 1];
        final int[] place = new int[MAX_TAPE + 1];
        int count;

        void cut(byte[] text, int length, String words) {
            count = 0;
            int from = 0;
            while (from < length) {
                int to = Math.max(from + 1, endOf(text, from, length));
                int sign = signAt(text, from);
                if (isLetter(sign)) {
                    int word = wordOf(text, from, to, words);
                    add(word == NONE ? UNKNOWN : WORD + word, 0, from);
                } else if (isDigit(sign)) {
                    add(to - from > 4 ? UNKNOWN : NUMBER, numberOf(text, from, to), from);
                } else if (sign != ' ' && sign != '\n') {
                    add(sign < 128 ? sign : UNKNOWN, 0, from);
                }
                from = to;
            }
            add(END, 0, length);
        }

        private void add(int what, int value, int where) {
            if (count < kind.length) {
                kind[count] = what;
                number[count] = value;
                place[count] = where;
                count++;
            }
        }

        /** Where the letters or digits end that begin at a place; of other signs each stands alone. */
        private static int endOf(byte[] text, int from, int length) {
            boolean letters = isLetter(signAt(text, from));
            boolean digits = isDigit(signAt(text, from));
            int to = from + 1;
            while (to < length && (letters && isLetter(signAt(text, to)) || digits && isDigit(signAt(text, to)))) {
                to++;
            }
            return to;
        }

        private static int signAt(byte[] text, int i) {
            return i >= 0 && i < text.length ? text[i] & 255 : 0;
        }

        private static boolean isLetter(int sign) {
            return sign >= 'a' && sign <= 'z' || sign >= 'A' && sign <= 'Z';
        }

        private static boolean isDigit(int sign) {
            return sign >= '0' && sign <= '9';
        }

        private static int numberOf(byte[] text, int from, int to) {
            int value = 0;
            for (int i = from; i < to && i < from + 4; i++) {
                value = value * 10 + signAt(text, i) - '0';
            }
            return value;
        }

        /** Which of the words, each with a blank behind it, stands in a part of a text. */
        private static int wordOf(byte[] text, int from, int to, String words) {
            int index = 0;
            int matched = 0;
            for (int i = 0; i < words.length(); i++) {
                char letter = words.charAt(i);
                if (letter == ' ') {
                    if (matched == to - from) {
                        return index;
                    }
                    index++;
                    matched = 0;
                } else if (matched != NONE && from + matched < to && signAt(text, from + matched) == letter) {
                    matched++;
                } else {
                    matched = NONE;
                }
            }
            return NONE;
        }
    }

    /** Reads a text into rows of its own, so that a text with a fault leaves the old one as it was. */
    private static final class Reader {
        private static final int CANNOT_STAND = 1;
        private static final int OUT_OF_BOUNDS = 2;
        private static final int TOO_MANY = 3;
        private static final int MAX_OPEN = 8;

        final Law law = new Law();
        final Sky sky = new Sky();
        final Plan plan = new Plan();
        final Tenets tenets = new Tenets();
        private final Tokens tokens = new Tokens();
        private int next;
        /** The number that was taken last. */
        private int value;
        private int lines;
        private int pillars;
        private int saints;
        int wrong;
        int wrongPlace = NONE;

        void forgetFault() {
            wrong = 0;
            wrongPlace = NONE;
        }

        /** How many lines the text has; NONE if it has a fault. */
        int read(int k, byte[] text, int length, World w) {
            forgetFault();
            tokens.cut(text, length, wordsOf(k));
            next = 0;
            lines = 0;
            pillars = w.pillars;
            saints = w.saints;
            law.clear();
            sky.count = 0;
            plan.count = 0;
            tenets.count = 0;
            for (int i = 0; i < MAX_TAPE && kind() != Tokens.END; i++) {
                boolean fine = k == TEXT_LAW ? lawLine()
                        : k == TEXT_SKY ? skyLine()
                        : k == TEXT_PLAN ? planLine() : tenetLine();
                if (!fine) {
                    return NONE;
                }
                lines++;
            }
            return lines;
        }

        private static String wordsOf(int k) {
            switch (k) {
                case TEXT_LAW:
                    return Tokens.LAW_WORDS;
                case TEXT_SKY:
                    return Tokens.SKY_WORDS;
                case TEXT_PLAN:
                    return Tokens.PLAN_WORDS;
                default:
                    return Tokens.TENET_WORDS;
            }
        }

        private int kind() {
            return next < tokens.count && next < tokens.kind.length ? tokens.kind[next] : Tokens.END;
        }

        private boolean isWord(int word) {
            return kind() == Tokens.WORD + word;
        }

        private boolean refuse(int fault) {
            wrong = fault;
            wrongPlace = next < tokens.count && next < tokens.place.length ? tokens.place[next] : NONE;
            return false;
        }

        private boolean take(int kind) {
            if (kind() != kind) {
                return refuse(CANNOT_STAND);
            }
            next++;
            return true;
        }

        private int numberHere() {
            return next < tokens.count && next < tokens.number.length ? tokens.number[next] : NONE;
        }

        private boolean number(int low, int high) {
            if (kind() != Tokens.NUMBER) {
                return refuse(CANNOT_STAND);
            }
            value = numberHere();
            if (value < low || value > high) {
                return refuse(OUT_OF_BOUNDS);
            }
            next++;
            return true;
        }

        /** The word that begins a line. */
        private boolean begin(int word) {
            if (!isWord(word)) {
                return refuse(CANNOT_STAND);
            }
            if (lines >= MAX_LINES) {
                return refuse(TOO_MANY);
            }
            next++;
            return true;
        }

        private boolean lawLine() {
            int word = isWord(Law.EATS) ? Law.EATS : isWord(Law.DIES) ? Law.DIES : Law.LEANS;
            if (!begin(word)) {
                return false;
            }
            law.openLine(word);
            if (!sum()) {
                return false;
            }
            law.markWhen();
            if (isWord(Tokens.WHEN)) {
                next++;
                if (!condition(0)) {
                    return false;
                }
            }
            law.closeLine();
            return take(';');
        }

        /** B, with how many ( and not are open around it. */
        private boolean condition(int open) {
            if (!comparison(open)) {
                return false;
            }
            boolean orWaits = false;
            for (int i = 0; i < MAX_TAPE; i++) {
                boolean and = isWord(Tokens.AND);
                if (!and && orWaits) {
                    law.emit(Law.OR);
                }
                if (!and && !isWord(Tokens.OR)) {
                    return true;
                }
                orWaits = orWaits || !and;
                next++;
                if (!comparison(open)) {
                    return false;
                }
                if (and) {
                    law.emit(Law.AND);
                }
            }
            return true;
        }

        /** C, with how many ( and not are open around it. */
        private boolean comparison(int open) {
            boolean not = isWord(Tokens.NOT);
            if (not || kind() == '(') {
                if (open >= MAX_OPEN) {
                    return refuse(TOO_MANY);
                }
                next++;
                if (!not) {
                    return condition(open + 1) && take(')');
                }
                if (!comparison(open + 1)) {
                    return false;
                }
                law.emit(Law.NOT);
                return true;
            }
            if (!sum()) {
                return false;
            }
            int sign = kind();
            if (sign != '<' && sign != '=' && sign != '>') {
                return refuse(CANNOT_STAND);
            }
            next++;
            if (!sum()) {
                return false;
            }
            law.emit(sign == '<' ? Law.LESS : sign == '=' ? Law.EQUAL : Law.GREATER);
            return true;
        }

        /** E with its T's: a + or - waits until the product behind it is whole. */
        private boolean sum() {
            if (!unit()) {
                return false;
            }
            int waiting = 0;
            for (int i = 0; i < MAX_TAPE; i++) {
                int sign = kind();
                if (sign != '*' && sign != '/' && waiting != 0) {
                    law.emit(waiting);
                }
                if (sign != '*' && sign != '/' && sign != '+' && sign != '-') {
                    return true;
                }
                next++;
                if (sign == '/' ? !number(1, 9999) : !unit()) {
                    return false;
                }
                if (sign == '/') {
                    law.emit(value);
                    law.emit(Law.DIVIDE);
                } else if (sign == '*') {
                    law.emit(Law.MULTIPLY);
                } else {
                    waiting = sign == '+' ? Law.ADD : Law.SUBTRACT;
                }
            }
            return true;
        }

        private boolean unit() {
            int kind = kind();
            boolean name = kind >= Tokens.WORD + Tokens.AGE && kind <= Tokens.WORD + Tokens.LAW_DAY;
            if (!name && kind != Tokens.NUMBER) {
                return refuse(CANNOT_STAND);
            }
            law.emit(name ? Law.NAMES - (kind - Tokens.WORD) : numberHere());
            next++;
            return true;
        }

        private boolean skyLine() {
            if (!begin(Tokens.SKY_DAY) || !number(0, 999)) {
                return false;
            }
            int day = value;
            if (!take(Tokens.WORD + Tokens.IS) || !number(0, MAX_WEATHER)) {
                return false;
            }
            sky.add(day, value);
            return take(';');
        }

        private boolean planLine() {
            if (!begin(Tokens.ON) || !number(0, 999)) {
                return false;
            }
            int day = value;
            int deed = kind() - Tokens.WORD;
            if (deed < Tokens.LOAVES || deed > Tokens.CURSE) {
                return refuse(CANNOT_STAND);
            }
            next++;
            int who = NONE;
            if (deed != Tokens.LOAVES && deed != Tokens.SAY) {
                if (!number(0, (deed == Tokens.BUILD ? pillars : saints) - 1)) {
                    return false;
                }
                who = value;
            }
            boolean counts = deed != Tokens.DOWN && deed != Tokens.CURSE;
            if (counts && !number(deed == Tokens.BUILD ? 1 : 0, deed == Tokens.LOAVES ? MAX_BASKET : 99)) {
                return false;
            }
            plan.add(day, deed, who, counts ? value : 0);
            return take(';');
        }

        private boolean tenetLine() {
            // at one place the lesser fault counts: too many only where the number itself could stand
            if (lines >= MAX_LINES && kind() == Tokens.NUMBER && numberHere() < TENETS) {
                return refuse(TOO_MANY);
            }
            if (!number(0, TENETS - 1)) {
                return false;
            }
            int given = 1 << value;
            for (int i = 0; i < MAX_TAPE && isWord(Tokens.TENET_AND); i++) {
                next++;
                if (!number(0, TENETS - 1)) {
                    return false;
                }
                given |= 1 << value;
            }
            if (!take(Tokens.WORD + Tokens.SO) || !number(0, TENETS - 1)) {
                return false;
            }
            tenets.add(given, 1 << value);
            return take(';');
        }
    }
}
