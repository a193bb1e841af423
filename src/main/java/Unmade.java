import java.util.Arrays;

/**
 * A city in which each year one thing is unmade by vote, so that it never was.
 * Sets of things, makings and works are numbers: 1 for the first, 2 for the second, 4 for the third.
 */
public final class Unmade {
    public static final int NONE = -1;

    private static final int NO_TRAY = 1;
    private static final int NO_SUCH = 2;
    private static final int TRAY_MISSING = 3;
    private static final int NO_PLACE = 4;
    private static final int BAD_NUMBER = 5;
    private static final int BELOW_ZERO = 6;
    private static final int ONE_TOO_MANY = 7;
    private static final int THERE_IS_NONE = 8;
    private static final int CANNOT_BE = 9;
    private static final int FAULTY = 10;
    private static final int UNLIKE_SORTS = 11;

    private static final int MOST_THINGS = 12;
    private static final int MOST_MAKINGS = 16;
    private static final int MOST_WORKS = 6;
    private static final int MOST_VOTERS = 6;
    private static final int SETS = 1 << MOST_THINGS;
    private static final int MOST_HATE = 9;
    private static final int MOST_WORTH = 99;
    private static final int LAST_LAW = 2;
    private static final int LAST_DATE = 9999;
    private static final int LAST_SEED = 9999;
    private static final int MOST_YEARS = 99;
    private static final int MOST_KEPT_YEARS = 12;
    private static final int MOST_TURNS = 4;
    private static final int MOST_LISTED = 6;
    private static final int MOST_SEEDS = 20;
    private static final int MOST_MARKS = 3;
    private static final int MOST_STORY_BYTES = 300;

    private final Trays trays;
    private final Tokens tape;
    private final CityReader cityReader;
    private final StoryReader storyReader;
    private final Standing standing;
    private final Ballot ballot;
    private final Plans plans;
    private final Past past;
    private final Life life;
    private final City[] marked;
    private final int[] told;
    private City now;
    private City draft;
    private int marks;
    private boolean anyTold;
    private int status;
    private long top;
    private long bottom;
    private int faultKind;
    private int faultPlace;

    public Unmade() {
        trays = new Trays();
        tape = new Tokens();
        now = new City();
        draft = new City();
        cityReader = new CityReader(tape, draft);
        storyReader = new StoryReader(tape, draft);
        marked = new City[MOST_MARKS];
        for (int k = 0; k < MOST_MARKS; k++) {
            marked[k] = new City();
        }
        int[] rows = new int[SETS];
        standing = new Standing(now);
        ballot = new Ballot(now, standing);
        plans = new Plans(now, standing, ballot, rows);
        past = new Past(now, standing, rows);
        life = new Life(now, standing, ballot);
        told = new int[Life.TALLIES];
        anyTold = false;
        marks = 0;
        status = 0;
        top = 0;
        bottom = 1;
        faultKind = NONE;
        faultPlace = NONE;
    }

    // ---- how calls end

    private int fine(int answer) {
        status = 0;
        return answer;
    }

    private boolean fineSo() {
        status = 0;
        return true;
    }

    private int refuse(int code) {
        status = code;
        return NONE;
    }

    private boolean refuseSo(int code) {
        status = code;
        return false;
    }

    /** Ends a call whose answer is NONE where there is none. */
    private int fineOrNone(int answer) {
        return answer == NONE ? refuse(THERE_IS_NONE) : fine(answer);
    }

    private void tellFraction(long over, long under) {
        long a = Math.abs(over);
        long b = Math.abs(under);
        // the rests shrink by half in two rounds, so 200 rounds are beyond any two longs
        for (int round = 0; round < 200 && b != 0; round++) {
            long rest = a % b;
            a = b;
            b = rest;
        }
        if (over == 0 || under == 0 || a == 0) {
            top = 0;
            bottom = 1;
            return;
        }
        top = over / a;
        bottom = under / a;
    }

    private boolean noThing(int k) {
        return k < 0 || k >= now.things;
    }

    private boolean noWork(int k) {
        return k < 0 || k >= now.works;
    }

    private boolean noVoter(int k) {
        return k < 0 || k >= now.voters;
    }

    private boolean noSetOfThings(int set) {
        return set < 0 || set >= 1 << now.things;
    }

    private boolean isOneOf(int k, int set) {
        return (set >> k & 1) != 0;
    }

    /** All that answers about the city asks the one that is there from now on. */
    private void turnToNow() {
        standing.turnTo(now);
        ballot.turnTo(now);
        plans.turnTo(now);
        past.turnTo(now);
        life.turnTo(now);
    }

    public int status() {
        return status;
    }

    public long top() {
        return top;
    }

    public long bottom() {
        return bottom;
    }

    // ---- TRAYS

    public boolean tray(int tray, int sort, int many) {
        if (!trays.isTray(tray) || !trays.isSort(sort)) {
            return refuseSo(NO_TRAY);
        }
        if (many > Trays.MOST_NUMBERS) {
            return refuseSo(BAD_NUMBER);
        }
        if (many < 0) {
            return refuseSo(BELOW_ZERO);
        }
        trays.lay(tray, sort, many);
        return fineSo();
    }

    public boolean write(int tray, int place, long v) {
        int wrong = placeFault(tray, place);
        if (wrong != 0) {
            return refuseSo(wrong);
        }
        trays.put(tray, place, v);
        return fineSo();
    }

    public long read(int tray, int place) {
        int wrong = placeFault(tray, place);
        if (wrong != 0) {
            return refuse(wrong);
        }
        status = 0;
        return trays.number(tray, place);
    }

    private int placeFault(int tray, int place) {
        if (!trays.isTray(tray)) {
            return NO_TRAY;
        }
        if (trays.isMissing(tray)) {
            return TRAY_MISSING;
        }
        return trays.has(tray, place, 1) ? 0 : NO_PLACE;
    }

    public boolean pour(int tray, int i, int to, int j, int many) {
        if (!trays.isTray(tray) || !trays.isTray(to)) {
            return refuseSo(NO_TRAY);
        }
        if (trays.isMissing(tray) || trays.isMissing(to)) {
            return refuseSo(TRAY_MISSING);
        }
        if (!trays.areAlike(tray, to)) {
            return refuseSo(UNLIKE_SORTS);
        }
        if (many < 0) {
            return refuseSo(BELOW_ZERO);
        }
        if (!trays.has(tray, i, many) || !trays.has(to, j, many)) {
            return refuseSo(NO_PLACE);
        }
        trays.move(tray, i, to, j, many);
        return fineSo();
    }

    // ---- texts

    public int feed(int a, int b, int c, int d, int e) {
        if (!tape.hasRoom()) {
            return NONE;
        }
        tape.add(a);
        tape.add(b);
        tape.add(c);
        tape.add(d);
        tape.add(e);
        return tape.fed;
    }

    public int city(int n) {
        if (n < 0 || n > tape.fed) {
            return refuse(BAD_NUMBER);
        }
        boolean taken = cityReader.takes(draft, n);
        tellFault(taken);
        if (!taken) {
            return refuse(FAULTY);
        }
        City old = now;
        now = draft;
        draft = old;
        turnToNow();
        return fine(now.things);
    }

    public int centuries(int n) {
        if (n < 0 || n > tape.fed || n > MOST_STORY_BYTES) {
            return refuse(BAD_NUMBER);
        }
        boolean taken = storyReader.takes(draft.story, now, n);
        tellFault(taken);
        if (!taken) {
            return refuse(FAULTY);
        }
        now.story.copyFrom(draft.story);
        return fine(now.story.steps);
    }

    private void tellFault(boolean taken) {
        faultKind = taken ? 0 : tape.faultKind;
        faultPlace = taken ? NONE : tape.faultPlace;
        tape.empty();
    }

    public int fault(int what) {
        if (what == 0) {
            return faultKind;
        }
        return what == 1 ? faultPlace : NONE;
    }

    public int many(int what) {
        int up = standing.atPresent();
        int all = (1 << now.things) - 1;
        switch (what) {
            case 0: return fine(now.things);
            case 1: return fine(now.makings);
            case 2: return fine(now.works);
            case 3: return fine(now.voters);
            case 4: return fine(now.law);
            case 5: return fine(now.date);
            case 6: return fine(up);
            case 7: return fine(now.gone);
            case 8: return fine(all & ~up & ~now.gone);
            case 9: return fine(now.spared);
            case 10: return fine(standing.doable(up));
            case 11: return fine(now.worthOf(up));
            default: return refuse(BAD_NUMBER);
        }
    }

    public int thing(int thing, int what) {
        if (noThing(thing)) {
            return refuse(NO_SUCH);
        }
        switch (what) {
            case 0: return fine(now.worth[thing]);
            case 1: return fine(standing.atPresent() >> thing & 1);
            case 2: return fine(now.makingsOf(thing));
            case 3: return fine(now.before[thing]);
            default: return refuse(BAD_NUMBER);
        }
    }

    public int making(int making, int what) {
        if (making < 0 || making >= now.makings) {
            return refuse(NO_SUCH);
        }
        switch (what) {
            case 0: return fine(now.product[making]);
            case 1: return fine(now.sources[making]);
            default: return refuse(BAD_NUMBER);
        }
    }

    public int needs(int work) {
        return noWork(work) ? refuse(NO_SUCH) : fine(now.wants[work]);
    }

    public int hate(int voter, int thing) {
        if (noVoter(voter) || noThing(thing)) {
            return refuse(NO_SUCH);
        }
        return fine(now.hates[voter * MOST_THINGS + thing]);
    }

    public int copyWorth(int tray) {
        if (!trays.isTray(tray)) {
            return refuse(NO_TRAY);
        }
        if (trays.isMissing(tray)) {
            return refuse(TRAY_MISSING);
        }
        if (!trays.has(tray, 0, now.things)) {
            return refuse(NO_PLACE);
        }
        int up = standing.atPresent();
        for (int t = 0; t < now.things; t++) {
            trays.put(tray, t, isOneOf(t, up) ? now.worth[t] : 0);
        }
        return fine(now.things);
    }

    // ---- what is done

    public int year(int years) {
        if (years < 1 || years > MOST_YEARS) {
            return refuse(BAD_NUMBER);
        }
        if (now.date + years > LAST_DATE) {
            return refuse(ONE_TOO_MANY);
        }
        int before = now.gone;
        for (int k = 0; k < years; k++) {
            now.gone = ballot.goneNextYear(now.gone, now.spared);
        }
        now.date += years;
        return fine(now.gone & ~before);
    }

    public int unmake(int thing) {
        if (noThing(thing)) {
            return refuse(NO_SUCH);
        }
        if (isOneOf(thing, now.gone | now.spared)) {
            return refuse(CANNOT_BE);
        }
        int before = standing.atPresent();
        now.gone |= 1 << thing;
        return fine(before & ~standing.atPresent());
    }

    public int remake(int thing) {
        if (noThing(thing)) {
            return refuse(NO_SUCH);
        }
        if (!isOneOf(thing, now.gone)) {
            return refuse(CANNOT_BE);
        }
        int before = standing.atPresent();
        now.gone &= ~(1 << thing);
        return fine(standing.atPresent() & ~before);
    }

    public boolean exempt(int thing, boolean is) {
        if (noThing(thing)) {
            return refuseSo(NO_SUCH);
        }
        if (isOneOf(thing, now.spared) == is) {
            return refuseSo(CANNOT_BE);
        }
        now.spared ^= 1 << thing;
        return fineSo();
    }

    public boolean grudge(int voter, int thing, int much) {
        if (noVoter(voter) || noThing(thing)) {
            return refuseSo(NO_SUCH);
        }
        if (much < 0 || much > MOST_HATE) {
            return refuseSo(BAD_NUMBER);
        }
        now.hates[voter * MOST_THINGS + thing] = much;
        ballot.forget();
        return fineSo();
    }

    public boolean rule(int law) {
        if (law < 0 || law > LAST_LAW) {
            return refuseSo(BAD_NUMBER);
        }
        now.law = law;
        ballot.forget();
        return fineSo();
    }

    // ---- votes

    public int vote() {
        return fineOrNone(ballot.count(ballot.openNow(), now.law));
    }

    public int votes(int thing) {
        if (noThing(thing)) {
            return refuse(NO_SUCH);
        }
        ballot.count(ballot.openNow(), now.law);
        return fine(ballot.counts[thing]);
    }

    public int voteBy(int law) {
        if (law < 0 || law > LAST_LAW) {
            return refuse(BAD_NUMBER);
        }
        return fineOrNone(ballot.count(ballot.openNow(), law));
    }

    public int sway(int voter) {
        if (noVoter(voter)) {
            return refuse(NO_SUCH);
        }
        if (now.law == LAST_LAW) {
            return refuse(CANNOT_BE);
        }
        return fine(ballot.swayedBy(voter));
    }

    // ---- what falls

    /** STATUS of a call about a thing that must stand. */
    private int uprightFault(int thing) {
        if (noThing(thing)) {
            return NO_SUCH;
        }
        return isOneOf(thing, standing.atPresent()) ? 0 : CANNOT_BE;
    }

    public int falls(int thing) {
        int wrong = uprightFault(thing);
        return wrong != 0 ? refuse(wrong) : fine(standing.fallingWith(thing));
    }

    public int loss(int thing) {
        int wrong = uprightFault(thing);
        return wrong != 0 ? refuse(wrong) : fine(now.worthOf(standing.fallingWith(thing)));
    }

    public int keystone() {
        int up = standing.atPresent();
        int key = NONE;
        int greatest = NONE;
        for (int t = 0; t < now.things; t++) {
            int lost = isOneOf(t, up) ? now.worthOf(standing.fallingWith(t)) : NONE;
            if (lost > greatest) {
                greatest = lost;
                key = t;
            }
        }
        return fineOrNone(key);
    }

    public int goneBy(int thing) {
        return noThing(thing) ? refuse(NO_SUCH) : fineOrNone(plans.yearsTillWithout(1 << thing));
    }

    public int ends(int work) {
        return noWork(work) ? refuse(NO_SUCH) : fineOrNone(plans.yearsTillWithout(now.wants[work]));
    }

    public int later(int years) {
        if (years < 0 || years > MOST_YEARS) {
            return refuse(BAD_NUMBER);
        }
        int gone = now.gone;
        for (int k = 0; k < years; k++) {
            gone = ballot.goneNextYear(gone, now.spared);
        }
        return fine(standing.without(gone));
    }

    // ---- plans

    public int keep(int work, int years) {
        return sizeOf(keepSet(work, years));
    }

    public int keepSet(int work, int years) {
        if (noWork(work)) {
            return refuse(NO_SUCH);
        }
        if (years < 0 || years > MOST_KEPT_YEARS) {
            return refuse(BAD_NUMBER);
        }
        return fineOrNone(plans.leastKeeping(now.wants[work], years));
    }

    private int sizeOf(int set) {
        return set == NONE ? NONE : Integer.bitCount(set);
    }

    public int strike(int work) {
        return sizeOf(strikeSet(work));
    }

    public int strikeSet(int work) {
        return noWork(work) ? refuse(NO_SUCH) : fineOrNone(plans.leastEnding(now.wants[work]));
    }

    public int agenda(int set) {
        if (noSetOfThings(set) || set == 0 || Integer.bitCount(set) > MOST_LISTED) {
            return refuse(BAD_NUMBER);
        }
        if ((set & ~standing.atPresent()) != 0) {
            return refuse(CANNOT_BE);
        }
        return fine(plans.listFor(set));
    }

    public int agendaAt(int k) {
        if (k < 0 || k >= plans.listed) {
            return refuse(THERE_IS_NONE);
        }
        return fine(plans.list[k]);
    }

    private boolean noGame(int works, int turns) {
        return works < 0 || works >= 1 << now.works || turns < 1 || turns > MOST_TURNS;
    }

    public int game(int works, int turns) {
        return noGame(works, turns) ? refuse(BAD_NUMBER) : fine(plans.worthOfGame(works, turns));
    }

    public int firstMove(int works, int turns) {
        return noGame(works, turns) ? refuse(BAD_NUMBER) : fineOrNone(plans.bestOpening(works, turns));
    }

    public int again(int thing) {
        return sizeOf(againSet(thing));
    }

    public int againSet(int thing) {
        return noThing(thing) ? refuse(NO_SUCH) : fineOrNone(plans.leastMaking(thing));
    }

    // ---- what was

    public int wasIt(int fell) {
        return noSetOfThings(fell) ? refuse(BAD_NUMBER) : fine(past.causesOf(fell));
    }

    private boolean noSuspects(int set, int fewest) {
        return noSetOfThings(set) || Integer.bitCount(set) < fewest || (set & ~standing.atPresent()) != 0;
    }

    public int tells(int set) {
        return noSuspects(set, 2) ? refuse(BAD_NUMBER) : fineOrNone(past.bestLook(set));
    }

    public int sure(int set) {
        return noSuspects(set, 1) ? refuse(BAD_NUMBER) : fineOrNone(past.fewestLooks(set));
    }

    public long histories() {
        return fine(past.orders());
    }

    public int firsts() {
        return fine(past.openings());
    }

    public int clash() {
        return fine(past.fewestUntrue());
    }

    public boolean aheadOdds(int thing, int other) {
        if (noThing(thing) || noThing(other)) {
            return refuseSo(NO_SUCH);
        }
        if (thing == other) {
            return refuseSo(CANNOT_BE);
        }
        int all = past.orders();
        if (all == 0) {
            return refuseSo(THERE_IS_NONE);
        }
        tellFraction(past.ordersWith(thing, other), all);
        return fineSo();
    }

    // ---- CENTURIES

    public int live(int seed) {
        if (seed < 0 || seed > LAST_SEED) {
            return refuse(BAD_NUMBER);
        }
        if (!now.story.told) {
            return refuse(THERE_IS_NONE);
        }
        int steps = life.goThrough(seed);
        System.arraycopy(life.tally, 0, told, 0, Life.TALLIES);
        anyTold = true;
        return fine(steps);
    }

    public int lived(int what) {
        if (what < 0 || what >= Life.TALLIES) {
            return refuse(BAD_NUMBER);
        }
        return anyTold ? fine(told[what]) : refuse(THERE_IS_NONE);
    }

    public boolean mean(int seed, int many) {
        if (seed < 0 || seed > LAST_SEED || many < 1 || many > MOST_SEEDS || seed + many - 1 > LAST_SEED) {
            return refuseSo(BAD_NUMBER);
        }
        if (!now.story.told) {
            return refuseSo(THERE_IS_NONE);
        }
        int gone = now.gone;
        int spared = now.spared;
        int date = now.date;
        int sum = 0;
        for (int k = 0; k < many; k++) {
            life.goThrough(seed + k);
            sum += Integer.bitCount(standing.doable(standing.atPresent()));
            now.gone = gone;
            now.spared = spared;
            now.date = date;
        }
        tellFraction(sum, many);
        return fineSo();
    }

    // ---- MARKS

    public int mark() {
        if (marks >= MOST_MARKS) {
            return refuse(ONE_TOO_MANY);
        }
        marked[marks].copyFrom(now);
        marks++;
        return fine(marks);
    }

    public int back() {
        if (marks <= 0) {
            return refuse(THERE_IS_NONE);
        }
        marks--;
        now.copyFrom(marked[marks]);
        turnToNow();
        return fine(marks);
    }

    // ---- the parts

    /** Four rows of numbers of 8 to 64 bits. */
    private static final class Trays {
        static final int MOST_NUMBERS = 60;
        private static final int TRAYS = 4;
        private static final int SORTS = 4;

        final long[][] rows;
        final int[] sorts;
        final int[] lengths;

        Trays() {
            rows = new long[TRAYS][MOST_NUMBERS];
            sorts = new int[TRAYS];
            lengths = new int[TRAYS];
            Arrays.fill(lengths, NONE);
        }

        boolean isTray(int k) {
            return k >= 0 && k < TRAYS;
        }

        boolean isSort(int k) {
            return k >= 0 && k < SORTS;
        }

        boolean isMissing(int k) {
            return lengths[k] < 0;
        }

        boolean areAlike(int k, int other) {
            return sorts[k] == sorts[other];
        }

        boolean has(int k, int from, int length) {
            return from >= 0 && length <= lengths[k] && from <= lengths[k] - length;
        }

        void lay(int k, int sort, int length) {
            sorts[k] = sort;
            lengths[k] = length;
            Arrays.fill(rows[k], 0L);
        }

        void put(int k, int place, long v) {
            rows[k][place] = cut(sorts[k], v);
        }

        long number(int k, int place) {
            return rows[k][place];
        }

        void move(int k, int i, int to, int j, int length) {
            System.arraycopy(rows[k], i, rows[to], j, length);
        }

        private static long cut(int sort, long v) {
            switch (sort) {
                case 0: return (byte) v;
                case 1: return (short) v;
                case 2: return (int) v;
                default: return v;
            }
        }
    }

    /** A city as its text tells it, and what became of it since. */
    private static final class City {
        static final int FIRST_THING = 0;
        static final int FIRST_WORK = MOST_THINGS;
        static final int FIRST_VOTER = FIRST_WORK + MOST_WORKS;
        static final int MOST_NAMES = FIRST_VOTER + MOST_VOTERS;

        final long[] names;
        final int[] worth;
        final int[] product;
        final int[] sources;
        final int[] wants;
        final int[] hates;
        final int[] before;
        final Story story;
        int things;
        int makings;
        int works;
        int voters;
        int law;
        int date;
        int gone;
        int spared;

        City() {
            names = new long[MOST_NAMES];
            worth = new int[MOST_THINGS];
            product = new int[MOST_MAKINGS];
            sources = new int[MOST_MAKINGS];
            wants = new int[MOST_WORKS];
            hates = new int[MOST_VOTERS * MOST_THINGS];
            before = new int[MOST_THINGS];
            story = new Story();
            things = 0;
            makings = 0;
            works = 0;
            voters = 0;
            law = 0;
            date = 0;
            gone = 0;
            spared = 0;
        }

        void clear() {
            Arrays.fill(names, 0L);
            Arrays.fill(worth, 1);
            Arrays.fill(sources, 0);
            Arrays.fill(wants, 0);
            Arrays.fill(hates, 0);
            Arrays.fill(before, 0);
            story.clear();
            things = 0;
            makings = 0;
            works = 0;
            voters = 0;
            law = 0;
            date = 0;
            gone = 0;
            spared = 0;
        }

        void copyFrom(City other) {
            System.arraycopy(other.names, 0, names, 0, MOST_NAMES);
            System.arraycopy(other.worth, 0, worth, 0, MOST_THINGS);
            System.arraycopy(other.product, 0, product, 0, MOST_MAKINGS);
            System.arraycopy(other.sources, 0, sources, 0, MOST_MAKINGS);
            System.arraycopy(other.wants, 0, wants, 0, MOST_WORKS);
            System.arraycopy(other.hates, 0, hates, 0, MOST_VOTERS * MOST_THINGS);
            System.arraycopy(other.before, 0, before, 0, MOST_THINGS);
            story.copyFrom(other.story);
            things = other.things;
            makings = other.makings;
            works = other.works;
            voters = other.voters;
            law = other.law;
            date = other.date;
            gone = other.gone;
            spared = other.spared;
        }

        boolean isTaken(long name) {
            for (int k = 0; k < MOST_NAMES; k++) {
                if (names[k] == name) {
                    return true;
                }
            }
            return false;
        }

        /** Which thing, work or voter, by where these begin among the names, is so named, or NONE. */
        int find(long name, int group) {
            int groupEnd = group == FIRST_THING ? FIRST_WORK : group == FIRST_WORK ? FIRST_VOTER : MOST_NAMES;
            for (int k = group; k < groupEnd; k++) {
                if (names[k] == name) {
                    return k - group;
                }
            }
            return NONE;
        }

        int worthOf(int set) {
            int sum = 0;
            for (int t = 0; t < things; t++) {
                if ((set >> t & 1) != 0) {
                    sum += worth[t];
                }
            }
            return sum;
        }

        int makingsOf(int t) {
            int set = 0;
            for (int m = 0; m < makings; m++) {
                if (product[m] == t) {
                    set |= 1 << m;
                }
            }
            return set;
        }
    }

    /** The centuries, as a row of lines: the steps, and an end for each when and loop. */
    private static final class Story {
        static final int MOST_STEPS = 30;
        static final int MOST_LINES = 2 * MOST_STEPS;
        static final int YEAR = 0;
        static final int UNMAKE = 1;
        static final int REMAKE = 2;
        static final int SPARE = 3;
        static final int JOKE = 4;
        static final int STOP = 5;
        static final int LOOP = 6;
        static final int WHEN_STANDS = 7;
        static final int WHEN_DONE = 8;
        static final int WHEN_VOTES = 9;
        static final int END = 10;

        final int[] verb;
        final int[] object;
        final int[] sign;
        final int[] number;
        /** Of a when or loop the line of its end; of an end the line of its when or loop. */
        final int[] partner;
        boolean told;
        int steps;
        int lines;

        Story() {
            verb = new int[MOST_LINES];
            object = new int[MOST_LINES];
            sign = new int[MOST_LINES];
            number = new int[MOST_LINES];
            partner = new int[MOST_LINES];
            told = false;
            steps = 0;
            lines = 0;
        }

        void clear() {
            told = false;
            steps = 0;
            lines = 0;
        }

        void copyFrom(Story other) {
            System.arraycopy(other.verb, 0, verb, 0, MOST_LINES);
            System.arraycopy(other.object, 0, object, 0, MOST_LINES);
            System.arraycopy(other.sign, 0, sign, 0, MOST_LINES);
            System.arraycopy(other.number, 0, number, 0, MOST_LINES);
            System.arraycopy(other.partner, 0, partner, 0, MOST_LINES);
            told = other.told;
            steps = other.steps;
            lines = other.lines;
        }
    }

    /** The tape, and the tokens of a text on it, one after another; the first fault is kept. */
    private static final class Tokens {
        static final int MOST_BYTES = 900;
        static final int A_FEED = 20;

        static final int AT_END = 0;
        static final int BROKEN = 1;
        static final int NAME = 2;
        static final int KEYWORD = 3;
        static final int LONG_WORD = 4;
        static final int NUMBER = 5;
        static final int SIGN = 6;

        static final int FAULT_TOKEN = 1;
        static final int FAULT_PLACE = 2;
        static final int FAULT_NAME = 3;
        static final int FAULT_NUMBER = 4;
        static final int FAULT_AGAIN = 5;
        static final int FAULT_MANY = 6;
        static final int FAULT_DEEP = 7;

        private static final String ALL_KEYWORDS =
            "thing worth exempt makes from work needs voter hates ahead law year unmake remake spare joke when stands done votes loop end stop ";
        static final int THING = 0;
        static final int WORTH = 1;
        static final int EXEMPT = 2;
        static final int MAKES = 3;
        static final int FROM = 4;
        static final int WORK = 5;
        static final int NEEDS = 6;
        static final int VOTER = 7;
        static final int HATES = 8;
        static final int AHEAD = 9;
        static final int LAW = 10;
        static final int YEAR = 11;
        static final int UNMAKE = 12;
        static final int REMAKE = 13;
        static final int SPARE = 14;
        static final int JOKE = 15;
        static final int WHEN = 16;
        static final int STANDS = 17;
        static final int DONE = 18;
        static final int VOTES = 19;
        static final int LOOP = 20;
        static final int END = 21;
        static final int STOP = 22;
        private static final int KEYWORDS = 23;

        private static final int LONGEST_NAME = 8;
        private static final int LONGEST_NUMBER = 4;
        private static final int LETTER_BITS = 5;

        final byte[] bytes;
        final long[] keywords;
        int fed;
        int length;
        int next;
        int kind;
        int place;
        int value;
        long name;
        int faultKind;
        int faultPlace;

        Tokens() {
            bytes = new byte[MOST_BYTES];
            keywords = new long[KEYWORDS];
            long packed = 0;
            int k = 0;
            for (int i = 0; i < ALL_KEYWORDS.length() && k < KEYWORDS; i++) {
                char c = ALL_KEYWORDS.charAt(i);
                if (c == ' ') {
                    keywords[k] = packed;
                    packed = 0;
                    k++;
                } else {
                    packed = packed << LETTER_BITS | c - 'a' + 1;
                }
            }
            fed = 0;
            length = 0;
            next = 0;
            kind = AT_END;
            place = 0;
            value = 0;
            name = 0;
            faultKind = 0;
            faultPlace = 0;
        }

        boolean hasRoom() {
            return fed + A_FEED <= MOST_BYTES;
        }

        void add(int four) {
            for (int shift = 24; shift >= 0 && fed < MOST_BYTES; shift -= 8) {
                bytes[fed] = (byte) (four >> shift);
                fed++;
            }
        }

        void empty() {
            fed = 0;
        }

        /** Goes to the first token of the text of the first n bytes. */
        void start(int n) {
            length = n;
            next = 0;
            faultKind = 0;
            faultPlace = NONE;
            advance();
        }

        void advance() {
            while (next < length && (bytes[next] == ' ' || bytes[next] == '\n')) {
                next++;
            }
            place = next;
            value = NONE;
            if (next >= length) {
                kind = AT_END;
            } else if (bytes[next] >= 'a' && bytes[next] <= 'z') {
                readWord();
            } else if (bytes[next] >= '0' && bytes[next] <= '9') {
                readNumber();
            } else {
                readSign();
            }
        }

        private void readWord() {
            name = 0;
            while (next < length && bytes[next] >= 'a' && bytes[next] <= 'z') {
                name = name << LETTER_BITS | bytes[next] - 'a' + 1;
                next++;
            }
            if (next - place > LONGEST_NAME) {
                kind = LONG_WORD;
                return;
            }
            kind = NAME;
            for (int k = 0; k < KEYWORDS && kind == NAME; k++) {
                if (keywords[k] == name) {
                    kind = KEYWORD;
                    value = k;
                }
            }
        }

        private void readNumber() {
            int number = 0;
            while (next < length && bytes[next] >= '0' && bytes[next] <= '9') {
                number = number * 10 + bytes[next] - '0';
                next++;
            }
            kind = next - place > LONGEST_NUMBER ? BROKEN : NUMBER;
            value = number;
        }

        private void readSign() {
            byte c = bytes[next];
            next++;
            kind = c == ';' || c == '<' || c == '>' || c == '=' ? SIGN : BROKEN;
            value = c;
        }

        /** Tells the fault of the token that is there; always false, so that readers can end with it. */
        boolean fail(int fault) {
            faultKind = kind == BROKEN ? FAULT_TOKEN : fault;
            faultPlace = place;
            return false;
        }

        boolean isKeyword(int keyword) {
            return kind == KEYWORD && value == keyword;
        }

        boolean isSign(char c) {
            return kind == SIGN && value == c;
        }

        boolean passKeyword(int keyword) {
            if (!isKeyword(keyword)) {
                return fail(FAULT_PLACE);
            }
            advance();
            return true;
        }

        boolean passSign(char c) {
            if (!isSign(c)) {
                return fail(FAULT_PLACE);
            }
            advance();
            return true;
        }

        /** The number that is there, or NONE with a fault. */
        int passNumber(int least, int most) {
            if (kind != NUMBER) {
                fail(FAULT_PLACE);
                return NONE;
            }
            if (value < least || value > most) {
                fail(FAULT_NUMBER);
                return NONE;
            }
            int number = value;
            advance();
            return number;
        }

        /** Which of a group of the city's names is there, or NONE with a fault. */
        int seeKnown(City city, int group) {
            if (kind != NAME) {
                fail(FAULT_PLACE);
                return NONE;
            }
            int known = city.find(name, group);
            if (known == NONE) {
                fail(FAULT_NAME);
            }
            return known;
        }

        int passKnown(City city, int group) {
            int known = seeKnown(city, group);
            if (known != NONE) {
                advance();
            }
            return known;
        }
    }

    /** Reads a city's text, part by part. */
    private static final class CityReader {
        final Tokens in;
        City city;
        boolean lawTold;

        CityReader(Tokens tokens, City draft) {
            in = tokens;
            city = draft;
            lawTold = false;
        }

        boolean takes(City draft, int n) {
            draft.clear();
            city = draft;
            lawTold = false;
            in.start(n);
            // each part takes a byte at least
            for (int part = 0; part <= Tokens.MOST_BYTES && in.kind != Tokens.AT_END; part++) {
                if (!readPart() || !in.passSign(';')) {
                    return false;
                }
            }
            return true;
        }

        private boolean readPart() {
            if (in.kind != Tokens.KEYWORD) {
                return in.fail(Tokens.FAULT_PLACE);
            }
            switch (in.value) {
                case Tokens.THING: return readThing();
                case Tokens.MAKES: return readMakes();
                case Tokens.WORK: return readWork();
                case Tokens.VOTER: return readVoter();
                case Tokens.HATES: return readHates();
                case Tokens.AHEAD: return readAhead();
                case Tokens.LAW: return readLaw();
                default: return in.fail(Tokens.FAULT_PLACE);
            }
        }

        /** Goes over the part's first word, unless there are as many of such parts as can be. */
        private boolean begin(int have, int most) {
            if (have >= most) {
                return in.fail(Tokens.FAULT_MANY);
            }
            in.advance();
            return true;
        }

        private boolean readNewName(int slot) {
            if (in.kind != Tokens.NAME) {
                return in.fail(Tokens.FAULT_PLACE);
            }
            if (city.isTaken(in.name)) {
                return in.fail(Tokens.FAULT_NAME);
            }
            city.names[slot] = in.name;
            in.advance();
            return true;
        }

        private boolean readThing() {
            int t = city.things;
            if (!begin(t, MOST_THINGS) || !readNewName(t)) {
                return false;
            }
            city.things++;
            if (in.isKeyword(Tokens.WORTH)) {
                in.advance();
                int worth = in.passNumber(0, MOST_WORTH);
                if (worth == NONE) {
                    return false;
                }
                city.worth[t] = worth;
            }
            if (in.isKeyword(Tokens.EXEMPT)) {
                in.advance();
                city.spared |= 1 << t;
            }
            return true;
        }

        /** The set of the things that are named up to the next sign, or NONE with a fault. */
        private int readThings(int forbidden) {
            int set = 0;
            for (int k = 0; k < Tokens.MOST_BYTES && (set == 0 || !in.isSign(';')); k++) {
                int t = in.seeKnown(city, City.FIRST_THING);
                if (t == NONE) {
                    return NONE;
                }
                if (t == forbidden) {
                    in.fail(Tokens.FAULT_AGAIN);
                    return NONE;
                }
                set |= 1 << t;
                in.advance();
            }
            return set;
        }

        private boolean readMakes() {
            int m = city.makings;
            if (!begin(m, MOST_MAKINGS)) {
                return false;
            }
            int product = in.passKnown(city, City.FIRST_THING);
            if (product == NONE || !in.passKeyword(Tokens.FROM)) {
                return false;
            }
            int set = readThings(product);
            if (set == NONE) {
                return false;
            }
            city.product[m] = product;
            city.sources[m] = set;
            city.makings++;
            return true;
        }

        private boolean readWork() {
            int w = city.works;
            if (!begin(w, MOST_WORKS) || !readNewName(City.FIRST_WORK + w) || !in.passKeyword(Tokens.NEEDS)) {
                return false;
            }
            int set = readThings(NONE);
            if (set == NONE) {
                return false;
            }
            city.wants[w] = set;
            city.works++;
            return true;
        }

        private boolean readVoter() {
            int v = city.voters;
            if (!begin(v, MOST_VOTERS) || !readNewName(City.FIRST_VOTER + v)) {
                return false;
            }
            city.voters++;
            return true;
        }

        private boolean readHates() {
            in.advance();
            int v = in.passKnown(city, City.FIRST_VOTER);
            int t = v == NONE ? NONE : in.passKnown(city, City.FIRST_THING);
            int much = t == NONE ? NONE : in.passNumber(0, MOST_HATE);
            if (much == NONE) {
                return false;
            }
            city.hates[v * MOST_THINGS + t] = much;
            return true;
        }

        private boolean readAhead() {
            in.advance();
            int first = in.passKnown(city, City.FIRST_THING);
            int second = first == NONE ? NONE : in.seeKnown(city, City.FIRST_THING);
            if (second == NONE) {
                return false;
            }
            if (second == first) {
                return in.fail(Tokens.FAULT_AGAIN);
            }
            in.advance();
            city.before[second] |= 1 << first;
            return true;
        }

        private boolean readLaw() {
            if (lawTold) {
                return in.fail(Tokens.FAULT_AGAIN);
            }
            lawTold = true;
            in.advance();
            int law = in.passNumber(0, LAST_LAW);
            if (law == NONE) {
                return false;
            }
            city.law = law;
            return true;
        }
    }

    /** Reads the text of centuries, step by step. */
    private static final class StoryReader {
        private static final int DEEPEST = 3;
        private static final int MOST_YEARS_TOLD = 9;
        private static final int MOST_ROUNDS = 99;
        private static final int MOST_COMPARED = 99;

        final Tokens in;
        final int[] open;
        int depth;
        City city;
        Story story;

        StoryReader(Tokens tokens, City about) {
            in = tokens;
            open = new int[DEEPEST];
            depth = 0;
            city = about;
            story = about.story;
        }

        boolean takes(Story draft, City about, int n) {
            story = draft;
            city = about;
            story.clear();
            depth = 0;
            in.start(n);
            // each line takes a byte at least
            for (int line = 0; line <= Tokens.MOST_BYTES && in.kind != Tokens.AT_END; line++) {
                boolean good = in.isKeyword(Tokens.END) ? readEnd() : beginStep() && readStep();
                if (!good || !in.passSign(';')) {
                    return false;
                }
                story.lines++;
            }
            if (depth > 0) {
                return in.fail(Tokens.FAULT_PLACE);
            }
            story.told = true;
            return true;
        }

        private boolean readEnd() {
            if (depth <= 0) {
                return in.fail(Tokens.FAULT_PLACE);
            }
            depth--;
            in.advance();
            story.verb[story.lines] = Story.END;
            story.partner[story.lines] = open[depth];
            story.partner[open[depth]] = story.lines;
            return true;
        }

        /** Sees to it that a step can begin with the word that is there. */
        private boolean beginStep() {
            if (!isStep()) {
                return in.fail(Tokens.FAULT_PLACE);
            }
            if (story.steps >= Story.MOST_STEPS) {
                return in.fail(Tokens.FAULT_MANY);
            }
            story.steps++;
            if (in.value != Tokens.WHEN && in.value != Tokens.LOOP) {
                return true;
            }
            if (depth >= DEEPEST) {
                return in.fail(Tokens.FAULT_DEEP);
            }
            open[depth] = story.lines;
            depth++;
            return true;
        }

        private boolean isStep() {
            return in.kind == Tokens.KEYWORD && (in.value >= Tokens.YEAR && in.value <= Tokens.WHEN
                || in.value == Tokens.LOOP || in.value == Tokens.STOP);
        }

        private boolean readStep() {
            int keyword = in.value;
            in.advance();
            switch (keyword) {
                case Tokens.YEAR: return readAmount(Story.YEAR, MOST_YEARS_TOLD);
                case Tokens.UNMAKE: return readThing(Story.UNMAKE);
                case Tokens.REMAKE: return readThing(Story.REMAKE);
                case Tokens.SPARE: return readThing(Story.SPARE);
                case Tokens.WHEN: return readTest();
                case Tokens.LOOP: return readAmount(Story.LOOP, MOST_ROUNDS);
                default:
                    story.verb[story.lines] = keyword == Tokens.JOKE ? Story.JOKE : Story.STOP;
                    return true;
            }
        }

        private boolean readAmount(int verb, int most) {
            int amount = in.passNumber(1, most);
            story.verb[story.lines] = verb;
            story.number[story.lines] = amount;
            return amount != NONE;
        }

        private boolean readThing(int verb) {
            int thing = in.passKnown(city, City.FIRST_THING);
            story.verb[story.lines] = verb;
            story.object[story.lines] = thing;
            return thing != NONE;
        }

        private boolean readTest() {
            int test = in.isKeyword(Tokens.STANDS) ? Story.WHEN_STANDS
                : in.isKeyword(Tokens.DONE) ? Story.WHEN_DONE
                : in.isKeyword(Tokens.VOTES) ? Story.WHEN_VOTES : NONE;
            if (test == NONE) {
                return in.fail(Tokens.FAULT_PLACE);
            }
            in.advance();
            int object = in.passKnown(city, test == Story.WHEN_DONE ? City.FIRST_WORK : City.FIRST_THING);
            story.verb[story.lines] = test;
            story.object[story.lines] = object;
            if (object == NONE || test != Story.WHEN_VOTES) {
                return object != NONE;
            }
            if (in.kind != Tokens.SIGN || in.isSign(';')) {
                return in.fail(Tokens.FAULT_PLACE);
            }
            story.sign[story.lines] = in.value;
            in.advance();
            int number = in.passNumber(0, MOST_COMPARED);
            story.number[story.lines] = number;
            return number != NONE;
        }
    }

    /** What stands, by what is unmade. Answers are kept, since plans ask for the same ones many times. */
    private static final class Standing {
        final int[] known;
        City city;
        int made;
        int stamp;

        Standing(City first) {
            known = new int[SETS];
            city = first;
            made = 0;
            stamp = 1;
        }

        void turnTo(City other) {
            city = other;
            // what was kept by an older stamp counts no more, without a row to be emptied
            stamp++;
            made = 0;
            for (int m = 0; m < city.makings; m++) {
                made |= 1 << city.product[m];
            }
        }

        int atPresent() {
            return without(city.gone);
        }

        /** What stands if just this set is unmade. */
        int without(int gone) {
            int kept = known[gone];
            if (kept >>> MOST_THINGS == stamp) {
                return kept & SETS - 1;
            }
            int up = build(gone);
            known[gone] = stamp << MOST_THINGS | up;
            return up;
        }

        private int build(int gone) {
            int up = (1 << city.things) - 1 & ~made & ~gone;
            boolean more = true;
            // each round but the last has a thing more
            for (int round = 0; round <= MOST_THINGS && more; round++) {
                more = false;
                for (int m = 0; m < city.makings; m++) {
                    int bit = 1 << city.product[m];
                    if ((bit & (up | gone)) == 0 && (city.sources[m] & ~up) == 0) {
                        up |= bit;
                        more = true;
                    }
                }
            }
            return up;
        }

        /** The works that can be done where these things stand. */
        int doable(int up) {
            int set = 0;
            for (int w = 0; w < city.works; w++) {
                if ((city.wants[w] & ~up) == 0) {
                    set |= 1 << w;
                }
            }
            return set;
        }

        int fallingWith(int t) {
            return atPresent() & ~without(city.gone | 1 << t);
        }
    }

    /** How the vote goes. */
    private static final class Ballot {
        private static final int NAMED_BITS = 4;

        final Standing standing;
        final int[] known;
        final int[] counts;
        City city;
        int stamp;

        Ballot(City first, Standing whatStands) {
            city = first;
            standing = whatStands;
            known = new int[SETS];
            counts = new int[MOST_THINGS];
            stamp = 1;
        }

        void turnTo(City other) {
            city = other;
            forget();
        }

        /** What was found by other grudges or another law counts no more. */
        void forget() {
            stamp++;
        }

        /** The things that have part in the vote. */
        int openNow() {
            return standing.without(city.gone) & ~city.spared;
        }

        /** What is unmade a year later, by what is unmade and exempt; what a vote named is kept by what was open to it. */
        int goneNextYear(int gone, int spared) {
            int open = standing.without(gone) & ~spared;
            int kept = known[open];
            int winner = (kept & (1 << NAMED_BITS) - 1) - 1;
            if (kept >>> NAMED_BITS != stamp) {
                winner = count(open, city.law);
                known[open] = stamp << NAMED_BITS | winner + 1;
            }
            return winner == NONE ? gone : gone | 1 << winner;
        }

        /** Counts the votes, of things that are out those of their last round; what is named, or NONE. */
        int count(int open, int law) {
            Arrays.fill(counts, 0);
            if (law == 1) {
                for (int t = 0; t < city.things; t++) {
                    counts[t] = (open >> t & 1) != 0 ? hatredOf(t) : 0;
                }
                return most(open);
            }
            int in = open;
            castOne(in, NONE);
            int out = law == 0 ? NONE : lastOfFewest(in);
            for (int round = 0; round < MOST_THINGS && out != NONE; round++) {
                in &= ~(1 << out);
                castOne(in, NONE);
                out = lastOfFewest(in);
            }
            return most(in);
        }

        int hatredOf(int t) {
            int sum = 0;
            for (int v = 0; v < city.voters; v++) {
                sum += city.hates[v * MOST_THINGS + t];
            }
            return sum;
        }

        /** Each voter but one (NONE: all) gives a vote to what he hates the most; what is not open keeps what it had. */
        private void castOne(int open, int butFor) {
            for (int t = 0; t < city.things; t++) {
                counts[t] = (open >> t & 1) != 0 ? 0 : counts[t];
            }
            for (int v = 0; v < city.voters; v++) {
                int worst = NONE;
                int much = 0;
                for (int t = 0; t < city.things && v != butFor; t++) {
                    int hate = city.hates[v * MOST_THINGS + t];
                    if (hate > much && (open >> t & 1) != 0) {
                        much = hate;
                        worst = t;
                    }
                }
                if (worst != NONE) {
                    counts[worst]++;
                }
            }
        }

        private int most(int open) {
            int best = NONE;
            int many = 0;
            for (int t = 0; t < city.things; t++) {
                if (counts[t] > many && (open >> t & 1) != 0) {
                    many = counts[t];
                    best = t;
                }
            }
            return best;
        }

        /** Who is out next of those that have votes, or NONE where there are not two. */
        private int lastOfFewest(int in) {
            int fewest = NONE;
            int holders = 0;
            for (int t = 0; t < city.things; t++) {
                if (counts[t] > 0 && (in >> t & 1) != 0) {
                    holders++;
                    if (fewest == NONE || counts[t] <= counts[fewest]) {
                        fewest = t;
                    }
                }
            }
            return holders > 1 ? fewest : NONE;
        }

        /** What a voter could have named by law 0 or 1: the most he can give goes to one thing after another. */
        int swayedBy(int voter) {
            int open = openNow();
            int all = city.law == 0 ? 1 : MOST_HATE;
            Arrays.fill(counts, 0);
            if (city.law == 0) {
                castOne(open, voter);
            } else {
                for (int t = 0; t < city.things; t++) {
                    counts[t] = hatredOf(t) - city.hates[voter * MOST_THINGS + t];
                }
            }
            int set = 0;
            for (int t = 0; t < city.things; t++) {
                if ((open >> t & 1) != 0) {
                    counts[t] += all;
                    int winner = most(open);
                    set |= winner == NONE ? 0 : 1 << winner;
                    counts[t] -= all;
                }
            }
            return set;
        }
    }

    /** What will be, and what can be planned. */
    private static final class Plans {
        private static final int UNKNOWN = 99;

        final Standing standing;
        final Ballot ballot;
        final int[] best;
        final int[] list;
        int listed;
        City city;
        int mine;

        Plans(City first, Standing whatStands, Ballot howTheyVote, int[] rows) {
            city = first;
            standing = whatStands;
            ballot = howTheyVote;
            best = rows;
            list = new int[MOST_LISTED];
            listed = 0;
            mine = 0;
        }

        void turnTo(City other) {
            city = other;
        }

        /** In how many years not all of a set stand first, or NONE. */
        int yearsTillWithout(int set) {
            int gone = city.gone;
            for (int years = 0; years <= MOST_YEARS; years++) {
                if ((set & ~standing.without(gone)) != 0) {
                    return years;
                }
                gone = ballot.goneNextYear(gone, city.spared);
            }
            return NONE;
        }

        private boolean keeps(int set, int extra, int years) {
            int gone = city.gone;
            for (int year = 0; year <= years; year++) {
                if ((set & ~standing.without(gone)) != 0) {
                    return false;
                }
                int next = ballot.goneNextYear(gone, city.spared | extra);
                if (next == gone) {
                    return true;
                }
                gone = next;
            }
            return true;
        }

        private boolean endsBy(int set, int extra) {
            return (set & ~standing.without(city.gone | extra)) != 0;
        }

        /** The fewest exemptions by which a set stands so long, or NONE. */
        int leastKeeping(int set, int years) {
            if (endsBy(set, 0)) {
                return NONE;
            }
            // to spare what nobody hates, or what has no part in the vote, changes nothing
            int open = ballot.openNow();
            int from = 0;
            for (int t = 0; t < city.things; t++) {
                if ((open >> t & 1) != 0 && ballot.hatredOf(t) > 0) {
                    from |= 1 << t;
                }
            }
            return least(set, from, years);
        }

        /** The fewest unmakings by which not all of a set stand, or NONE. */
        int leastEnding(int set) {
            int from = ballot.openNow();
            return endsBy(set, from) ? least(set, from, NONE) : NONE;
        }

        /** The least of the smallest sets out of others that keep a set for years, or end it, with NONE for years. */
        private int least(int set, int from, int years) {
            int most = Integer.bitCount(from);
            for (int size = 0; size <= most; size++) {
                int extra = 0;
                for (int k = 0; k < 1 << most; k++) {
                    if (Integer.bitCount(extra) == size
                        && (years == NONE ? endsBy(set, extra) : keeps(set, extra, years))) {
                        return extra;
                    }
                    extra = nextWithin(extra, from);
                }
            }
            return NONE;
        }

        /** The set that is next as a number of those out of others. */
        private static int nextWithin(int set, int from) {
            return set - from & from;
        }

        /** Lists a set in the best order for the works: how many together can be done. */
        int listFor(int set) {
            int steps = Integer.bitCount(set);
            int done = set;
            for (int k = 0; k < 1 << steps; k++) {
                best[done] = done == set ? 0 : worthOfNext(done, bestNext(set, done));
                done = done - 1 & set;
            }
            done = 0;
            listed = 0;
            for (int k = 0; k < steps && k < MOST_LISTED; k++) {
                list[k] = bestNext(set, done);
                listed++;
                done |= 1 << list[k];
            }
            return best[0];
        }

        private int worthOfNext(int done, int t) {
            int then = done | 1 << t;
            return Integer.bitCount(standing.doable(standing.without(city.gone | then))) + best[then];
        }

        private int bestNext(int set, int done) {
            int first = 0;
            int most = NONE;
            for (int t = 0; t < city.things; t++) {
                if ((set >> t & 1) != 0 && (done >> t & 1) == 0) {
                    int worth = worthOfNext(done, t);
                    if (worth > most) {
                        most = worth;
                        first = t;
                    }
                }
            }
            return first;
        }

        private void startGame(int works) {
            mine = works;
            Arrays.fill(best, UNKNOWN);
        }

        int worthOfGame(int works, int turns) {
            startGame(works);
            return play(city.gone, turns, true);
        }

        int bestOpening(int works, int turns) {
            startGame(works);
            int open = ballot.openNow();
            int move = NONE;
            int most = -UNKNOWN;
            for (int t = 0; t < city.things; t++) {
                if ((open >> t & 1) != 0) {
                    int worth = play(city.gone | 1 << t, turns - 1, false);
                    if (worth > most) {
                        most = worth;
                        move = t;
                    }
                }
            }
            return move;
        }

        private int score(int up) {
            int done = standing.doable(up);
            return Integer.bitCount(done & mine) - Integer.bitCount(done & ~mine);
        }

        /** What a game comes to from here; by what is unmade it can be seen whose turn it is, so it is kept by that. */
        private int play(int gone, int turns, boolean first) {
            int up = standing.without(gone);
            int open = up & ~city.spared;
            if (turns <= 0 || open == 0) {
                return score(up);
            }
            if (best[gone] != UNKNOWN) {
                return best[gone];
            }
            int worth = first ? -UNKNOWN : UNKNOWN;
            for (int t = 0; t < city.things; t++) {
                if ((open >> t & 1) != 0) {
                    int then = play(gone | 1 << t, turns - 1, !first);
                    worth = first ? Math.max(worth, then) : Math.min(worth, then);
                }
            }
            best[gone] = worth;
            return worth;
        }

        /** The fewest makings by which a thing can be had, or NONE. */
        int leastMaking(int thing) {
            int up = standing.atPresent();
            if ((up >> thing & 1) == 0) {
                return NONE;
            }
            if ((standing.made >> thing & 1) == 0) {
                return 0;
            }
            int from = up & standing.made;
            int sets = 1 << Integer.bitCount(from);
            int answer = NONE;
            int fewest = MOST_THINGS + 1;
            int set = 0;
            best[0] = 0;
            for (int k = 1; k < sets; k++) {
                set = nextWithin(set, from);
                best[set] = leastMakingAll(set, up & ~standing.made);
                int size = Integer.bitCount(set);
                if (best[set] != NONE && (set >> thing & 1) != 0
                    && (size < fewest || size == fewest && best[set] < answer)) {
                    fewest = size;
                    answer = best[set];
                }
            }
            return answer;
        }

        /**
         * The least set of makings, one for each of these things, that makes them all, or NONE.
         * One of them is made last, and the least set for the others is known by then.
         */
        private int leastMakingAll(int set, int raw) {
            int least = NONE;
            for (int m = 0; m < city.makings; m++) {
                int bit = 1 << city.product[m];
                int others = set & ~bit;
                if ((set & bit) != 0 && best[others] != NONE && (city.sources[m] & ~(others | raw)) == 0) {
                    int makings = best[others] | 1 << m;
                    least = least == NONE ? makings : Math.min(least, makings);
                }
            }
            return least;
        }
    }

    /** What it was, by what fell; and the orders in which things can have been made. */
    private static final class Past {
        final Standing standing;
        final int[] rows;
        final int[] felling;
        City city;

        Past(City first, Standing whatStands, int[] shared) {
            city = first;
            standing = whatStands;
            rows = shared;
            felling = new int[MOST_THINGS];
        }

        void turnTo(City other) {
            city = other;
        }

        int causesOf(int fell) {
            int up = standing.atPresent();
            int set = 0;
            for (int t = 0; t < city.things; t++) {
                if ((up >> t & 1) != 0 && standing.fallingWith(t) == fell) {
                    set |= 1 << t;
                }
            }
            return set;
        }

        /** Of each thing, with which of the suspects it falls. */
        private void findFelling(int suspects) {
            Arrays.fill(felling, 0);
            for (int s = 0; s < city.things; s++) {
                int fell = (suspects >> s & 1) != 0 ? standing.fallingWith(s) : 0;
                for (int t = 0; t < city.things; t++) {
                    felling[t] |= (fell >> t & 1) << s;
                }
            }
        }

        int bestLook(int set) {
            findFelling(set);
            int look = NONE;
            int least = Integer.bitCount(set);
            for (int t = 0; t < city.things; t++) {
                int greater = Math.max(Integer.bitCount(set & felling[t]), Integer.bitCount(set & ~felling[t]));
                if (greater < least) {
                    least = greater;
                    look = t;
                }
            }
            return look;
        }

        int fewestLooks(int set) {
            for (int s = 0; s < city.things; s++) {
                if ((set >> s & 1) != 0 && Integer.bitCount(causesOf(standing.fallingWith(s)) & set) > 1) {
                    return NONE;
                }
            }
            findFelling(set);
            Arrays.fill(rows, NONE);
            return looksFor(set, 0);
        }

        /** How many looks tell which of these, that all fall unlike; each look leaves fewer, so it ends. */
        private int looksFor(int set, int depth) {
            if (Integer.bitCount(set) <= 1 || depth >= MOST_THINGS) {
                return 0;
            }
            if (rows[set] != NONE) {
                return rows[set];
            }
            int least = MOST_THINGS;
            for (int t = 0; t < city.things; t++) {
                int fallen = set & felling[t];
                if (fallen != 0 && fallen != set) {
                    least = Math.min(least, 1 + Math.max(looksFor(fallen, depth + 1), looksFor(set & ~fallen, depth + 1)));
                }
            }
            rows[set] = least;
            return least;
        }

        int orders() {
            return ordersWith(NONE, NONE);
        }

        /** In how many orders all things can have been made, a first ahead of a second too (NONE: nothing more). */
        int ordersWith(int first, int second) {
            int sets = 1 << city.things;
            rows[0] = 1;
            for (int set = 1; set < sets; set++) {
                int sum = 0;
                for (int t = 0; t < city.things; t++) {
                    int others = set & ~(1 << t);
                    int must = city.before[t] | (t == second ? 1 << first : 0);
                    if (others != set && (must & ~others) == 0) {
                        sum += rows[others];
                    }
                }
                rows[set] = sum;
            }
            return rows[sets - 1];
        }

        int openings() {
            if (orders() == 0) {
                return 0;
            }
            int set = 0;
            for (int t = 0; t < city.things; t++) {
                set |= city.before[t] == 0 ? 1 << t : 0;
            }
            return set;
        }

        /** The fewest aheads that are untrue in an order: of a set one is the first, and those told ahead of it are not. */
        int fewestUntrue() {
            int sets = 1 << city.things;
            rows[0] = 0;
            for (int set = 1; set < sets; set++) {
                int least = MOST_THINGS * MOST_THINGS;
                for (int t = 0; t < city.things; t++) {
                    int others = set & ~(1 << t);
                    if (others != set) {
                        least = Math.min(least, rows[others] + Integer.bitCount(city.before[t] & others));
                    }
                }
                rows[set] = least;
            }
            return rows[sets - 1];
        }
    }

    /** Goes through the centuries of a city, which becomes what it becomes by them. */
    private static final class Life {
        static final int TALLIES = 5;
        private static final int MISSED = 0;
        private static final int YEARS = 1;
        private static final int UNMADE = 2;
        private static final int JOKES = 3;
        private static final int LEFT = 4;
        private static final int MOST_STEPS = 300;
        /** Far above what 300 steps and the ends between them, of loops of 99 rounds, can need. */
        private static final int MOST_LINES = 1000000;

        final Standing standing;
        final Ballot ballot;
        final int[] tally;
        final int[] rounds;
        City city;
        int draws;

        Life(City first, Standing whatStands, Ballot howTheyVote) {
            city = first;
            standing = whatStands;
            ballot = howTheyVote;
            tally = new int[TALLIES];
            rounds = new int[Story.MOST_LINES];
            draws = 0;
        }

        void turnTo(City other) {
            city = other;
        }

        /** How many steps were come to. */
        int goThrough(int seed) {
            Arrays.fill(tally, 0);
            draws = seed;
            Story story = city.story;
            int steps = 0;
            int at = 0;
            for (int k = 0; k < MOST_LINES && at < story.lines; k++) {
                if (story.verb[at] == Story.END) {
                    at = lineBehindEnd(story, at);
                } else if (steps >= MOST_STEPS) {
                    tally[LEFT] = 1;
                    return steps;
                } else {
                    steps++;
                    at = lineBehindStep(story, at);
                }
            }
            return steps;
        }

        private int lineBehindEnd(Story story, int at) {
            int opening = story.partner[at];
            if (story.verb[opening] == Story.LOOP) {
                rounds[opening]--;
                if (rounds[opening] > 0) {
                    return opening + 1;
                }
            }
            return at + 1;
        }

        private int lineBehindStep(Story story, int at) {
            int object = story.object[at];
            switch (story.verb[at]) {
                case Story.YEAR:
                    passYears(story.number[at]);
                    break;
                case Story.UNMAKE:
                    tryUnmaking(object);
                    break;
                case Story.REMAKE:
                    tryRemaking(object);
                    break;
                case Story.SPARE:
                    city.spared ^= 1 << object;
                    break;
                case Story.JOKE:
                    tryJoking();
                    break;
                case Story.LOOP:
                    rounds[at] = story.number[at];
                    break;
                case Story.STOP:
                    return story.lines;
                default:
                    return isSo(story, at) ? at + 1 : story.partner[at] + 1;
            }
            return at + 1;
        }

        private void passYears(int years) {
            if (city.date + years > LAST_DATE) {
                tally[MISSED]++;
                return;
            }
            for (int k = 0; k < years; k++) {
                int gone = ballot.goneNextYear(city.gone, city.spared);
                tally[gone == city.gone ? MISSED : UNMADE]++;
                city.gone = gone;
            }
            city.date += years;
            tally[YEARS] += years;
        }

        private void tryUnmaking(int t) {
            if (((city.gone | city.spared) >> t & 1) != 0) {
                tally[MISSED]++;
                return;
            }
            city.gone |= 1 << t;
            tally[UNMADE]++;
        }

        private void tryRemaking(int t) {
            if ((city.gone >> t & 1) == 0) {
                tally[MISSED]++;
                return;
            }
            city.gone &= ~(1 << t);
        }

        private void tryJoking() {
            int open = ballot.openNow();
            int many = Integer.bitCount(open);
            if (many == 0) {
                tally[MISSED]++;
                return;
            }
            int left = draw(many);
            for (int t = 0; t < city.things; t++) {
                if ((open >> t & 1) != 0) {
                    if (left == 0) {
                        city.gone |= 1 << t;
                    }
                    left--;
                }
            }
            tally[UNMADE]++;
            tally[JOKES]++;
        }

        private int draw(int n) {
            draws = (draws * 2971 + 10663) % 65536;
            return n > 0 ? draws / 8 % n : 0;
        }

        private boolean isSo(Story story, int at) {
            int object = story.object[at];
            int up = standing.atPresent();
            if (story.verb[at] == Story.WHEN_STANDS) {
                return (up >> object & 1) != 0;
            }
            if (story.verb[at] == Story.WHEN_DONE) {
                return (standing.doable(up) >> object & 1) != 0;
            }
            int got = ((up & ~city.spared) >> object & 1) != 0 ? ballot.hatredOf(object) : 0;
            int number = story.number[at];
            switch (story.sign[at]) {
                case '<': return got < number;
                case '>': return got > number;
                default: return got == number;
            }
        }
    }
}
