import java.util.Arrays;

/** A field where prospectors look for a lode by the gravel below it: ground, samples, claims, ditches, a mill. */
public final class Steplode {
    private static final int NONE = -1;
    private static final int SIDE = 6;
    private static final int PLACES = 36;
    private static final int SIDES_OF_A_PLACE = 4;
    private static final int MOST_HEIGHT = 99;
    private static final int MOST_GRADE = 200;
    private static final int PROSPECTORS = 4;
    private static final int MOST_CLAIMS = 8;
    private static final int MOST_CLAIMS_OF_ONE = 3;
    private static final int MOST_PLACES_OF_A_CLAIM = 9;
    private static final int DAYS_TO_LAPSE = 30;
    private static final int MOST_DAYS_AT_ONCE = 100;
    private static final int LAST_DAY = 2000;
    private static final int MOST_FALL = 30;
    private static final int MOST_PRICE = 99;
    private static final int MOST_HEAPS = 6;
    private static final int MOST_OF_A_HEAP = 50;
    private static final int COST_TO_DIG = 10;
    private static final int COST_OF_A_PLACE = 5;
    private static final int COST_OF_A_FOREIGN_PLACE = 20;
    private static final int FACTS_OF_A_PLACE = 7;
    private static final int FACTS_OF_A_CLAIM = 8;
    private static final int FACTS_OF_THE_FIELD = 13;

    private final Ground ground;
    private final Search search;
    private final Claims claims;
    private final Ditches ditches;
    private final Heaps heaps;
    private int fall;
    private int price;
    private int paidForDigging;
    private int waitedEver;

    public Steplode() {
        ground = new Ground();
        search = new Search();
        claims = new Claims();
        ditches = new Ditches();
        heaps = new Heaps();
        fall = 10;
        price = 20;
    }

    public int height(int place, int height) throws IndexOutOfBoundsException, IllegalArgumentException {
        requirePlace(place);
        requireWithin(height, 0, MOST_HEIGHT);
        int before = ground.heightOf(place);
        ground.setHeight(place, height);
        search.forgetSamples();
        return before;
    }

    public int lode(int place, int grade) throws IndexOutOfBoundsException, IllegalArgumentException {
        requirePlace(place);
        requireWithin(grade, 1, MOST_GRADE);
        int before = search.lodePlace;
        search.hideLode(place, grade);
        return before;
    }

    public int sample(int place) throws IndexOutOfBoundsException, IllegalStateException {
        requirePlace(place);
        requireState(!search.isSampled(place));
        return search.take(ground, place);
    }

    public boolean dig(int place) throws IndexOutOfBoundsException {
        requirePlace(place);
        paidForDigging += COST_TO_DIG + ground.heightOf(place);
        return place == search.lodePlace;
    }

    public int stake(int prospector, int from, int to)
            throws IndexOutOfBoundsException, IllegalArgumentException, IllegalStateException {
        requireProspector(prospector);
        requirePlace(from);
        requirePlace(to);
        requireRectangle(from, to);
        requireState(!claims.areAllStaked());
        requireState(!claims.isAnyTaken(from, to));
        requireState(claims.liveOf(prospector) < MOST_CLAIMS_OF_ONE);
        return claims.add(prospector, from, to);
    }

    public int work(int claim) throws IndexOutOfBoundsException, IllegalStateException {
        requireClaim(claim);
        requireState(!claims.hasLapsed(claim));
        int gone = claims.daysGone(claim);
        claims.beginAnew(claim);
        return gone;
    }

    public int pass(int days) throws IllegalArgumentException, IllegalStateException {
        requireWithin(days, 1, MOST_DAYS_AT_ONCE);
        requireState(claims.today + days <= LAST_DAY);
        return claims.passDays(days);
    }

    public int rules(int fall, int price) throws IllegalArgumentException {
        requireWithin(fall, 1, MOST_FALL);
        requireWithin(price, 1, MOST_PRICE);
        int before = this.fall;
        this.fall = fall;
        this.price = price;
        return before;
    }

    public int heap(int tons, int worth) throws IllegalArgumentException, IllegalStateException {
        requireWithin(tons, 1, MOST_OF_A_HEAP);
        requireWithin(worth, 1, MOST_OF_A_HEAP);
        requireState(!heaps.isFull());
        return heaps.add(tons, worth);
    }

    public int mill() {
        int waiting = heaps.waiting();
        heaps.clear();
        waitedEver += waiting;
        return waiting;
    }

    public int ofPlace(int place, int what) throws IndexOutOfBoundsException, IllegalArgumentException {
        requirePlace(place);
        switch (what) {
            case 0: return ground.heightOf(place);
            case 1: return ground.flowOf(place);
            case 2: return search.sampleOf(place);
            case 3: return oneIf(search.gradesOf(place) == 0);
            case 4: return claims.liveAt(place);
            case 5: return ground.watersOf(place);
            case 6: return search.gradesOf(place);
            default: throw new IllegalArgumentException("no such fact of a place");
        }
    }

    public int steps(int from, int to) throws IndexOutOfBoundsException {
        requirePlace(from);
        requirePlace(to);
        return ground.flowsBetween(from, to);
    }

    public int ofClaim(int claim, int what) throws IndexOutOfBoundsException, IllegalArgumentException {
        requireClaim(claim);
        switch (what) {
            case 0: return claims.ownerOf(claim);
            case 1: return claims.sizeOf(claim);
            case 2: return claims.firstOf(claim);
            case 3: return claims.lastOf(claim);
            case 4: return oneIf(claims.hasLapsed(claim));
            case 5: return claims.daysGone(claim);
            case 6: return oreOf(claim);
            case 7: return oneIf(pays(claim));
            default: throw new IllegalArgumentException("no such fact of a claim");
        }
    }

    public int field(int what) throws IllegalArgumentException {
        switch (what) {
            case 0: return claims.today;
            case 1: return search.taken;
            case 2: return search.openPlaces();
            case 3: return search.openPlaces() == 1 ? search.lodePlace : NONE;
            case 4: return claims.liveOnes();
            case 5: return claims.count;
            case 6: return paidForDigging;
            case 7: return fall;
            case 8: return price;
            case 9: return heaps.count;
            case 10: return heaps.waiting();
            case 11: return waitedEver;
            case 12: return ground.sinks();
            default: throw new IllegalArgumentException("no such fact of the field");
        }
    }

    public String row(int row) throws IndexOutOfBoundsException {
        if (row < 0 || row >= SIDE) {
            throw new IndexOutOfBoundsException("no such row");
        }
        StringBuilder signs = new StringBuilder();
        for (int place = row * SIDE; place < row * SIDE + SIDE; place++) {
            signs.append(search.signOf(place));
        }
        return signs.toString();
    }

    public int bestSample(boolean isPlace) {
        int best = NONE;
        int fewest = NONE;
        for (int place = 0; place < PLACES; place++) {
            if (!search.isSampled(place)) {
                int left = search.leftAtWorst(ground, place);
                if (best == NONE || left < fewest) {
                    best = place;
                    fewest = left;
                }
            }
        }
        return isPlace ? best : fewest;
    }

    public int worst(int place) throws IndexOutOfBoundsException {
        requirePlace(place);
        return search.leftAtWorst(ground, place);
    }

    public int ditch(int prospector, int from, int to) throws IndexOutOfBoundsException {
        surveyDitch(prospector, from, to);
        return ditches.costFrom(from);
    }

    public String way(int prospector, int from, int to) throws IndexOutOfBoundsException {
        surveyDitch(prospector, from, to);
        if (ditches.costFrom(from) == NONE) {
            return "none";
        }
        StringBuilder places = new StringBuilder();
        places.append(from);
        int at = from;
        for (int dug = 1; dug < PLACES && at != to; dug++) {
            at = ditches.nextAfter(ground, fall, at);
            places.append('-').append(at);
        }
        return places.toString();
    }

    public int heapAt(int nth) throws IndexOutOfBoundsException {
        if (nth < 0 || nth >= heaps.count) {
            throw new IndexOutOfBoundsException("not so many heaps");
        }
        return heaps.inOrder(nth);
    }

    public boolean isSound() {
        return search.gradesOf(search.lodePlace) > 0
            && !claims.doAnyOverlap()
            && search.areSamplesTrue(ground)
            && heaps.isOrderBest()
            && ground.doesAllWaterRest();
    }

    public long digest() {
        long d = 6473;
        for (int what = 0; what < FACTS_OF_THE_FIELD; what++) {
            d = d * 31 + field(what);
        }
        for (int place = 0; place < PLACES; place++) {
            for (int what = 0; what < FACTS_OF_A_PLACE; what++) {
                d = d * 31 + ofPlace(place, what);
            }
        }
        for (int claim = 0; claim < claims.count; claim++) {
            for (int what = 0; what < FACTS_OF_A_CLAIM; what++) {
                d = d * 31 + ofClaim(claim, what);
            }
        }
        d = d * 31 + bestSample(true);
        d = d * 31 + bestSample(false);
        d = d * 31 + ditch(0, 0, PLACES - 1);
        for (int nth = 0; nth < heaps.count; nth++) {
            d = d * 31 + heapAt(nth);
        }
        return d * 31 + oneIf(isSound());
    }

    private int oreOf(int claim) {
        int ore = 0;
        for (int place = 0; place < PLACES; place++) {
            if (claims.holds(claim, place)) {
                ore += search.grainsAt(ground, place);
            }
        }
        return ore;
    }

    private boolean pays(int claim) {
        return oreOf(claim) * price / 10 > COST_OF_A_PLACE * claims.sizeOf(claim);
    }

    private void surveyDitch(int prospector, int from, int to) {
        requireProspector(prospector);
        requirePlace(from);
        requirePlace(to);
        ditches.setPrices(claims, prospector);
        ditches.survey(ground, fall, to);
    }

    private static boolean isPlace(int place) {
        return place >= 0 && place < PLACES;
    }

    private static int oneIf(boolean isSo) {
        return isSo ? 1 : 0;
    }

    private static void requirePlace(int place) {
        if (!isPlace(place)) {
            throw new IndexOutOfBoundsException("no such place");
        }
    }

    private static void requireProspector(int prospector) {
        if (prospector < 0 || prospector >= PROSPECTORS) {
            throw new IndexOutOfBoundsException("no such prospector");
        }
    }

    private void requireClaim(int claim) {
        if (!claims.isClaim(claim)) {
            throw new IndexOutOfBoundsException("no such claim");
        }
    }

    private static void requireWithin(int number, int least, int most) {
        if (number < least || number > most) {
            throw new IllegalArgumentException("a number out of its bounds");
        }
    }

    private static void requireRectangle(int from, int to) {
        if (to / SIDE < from / SIDE || to % SIDE < from % SIDE
                || Claims.placesBetween(from, to) > MOST_PLACES_OF_A_CLAIM) {
            throw new IllegalArgumentException("no rectangle for a claim");
        }
    }

    private static void requireState(boolean isSo) {
        if (!isSo) {
            throw new IllegalStateException("not as things stand");
        }
    }

    /** Heights, and where the water goes by them. */
    private static final class Ground {
        private final int[] heights = new int[PLACES];
        // Kept, because every step of every stream asks for it, while heights seldom change.
        private final int[] flows = new int[PLACES];

        Ground() {
            for (int place = 0; place < PLACES; place++) {
                heights[place] = 6 * ((5 - place / SIDE) + (5 - place % SIDE));
            }
            findFlows();
        }

        int heightOf(int place) {
            return place >= 0 && place < PLACES ? heights[place] : 0;
        }

        void setHeight(int place, int height) {
            if (isPlace(place)) {
                heights[place] = height;
                findFlows();
            }
        }

        int flowOf(int place) {
            return place >= 0 && place < PLACES ? flows[place] : NONE;
        }

        /** The sides are numbered so that the neighbours come with rising numbers. */
        static int neighbour(int place, int side) {
            if (!isPlace(place)) {
                return NONE;
            }
            switch (side) {
                case 0: return place >= SIDE ? place - SIDE : NONE;
                case 1: return place % SIDE > 0 ? place - 1 : NONE;
                case 2: return place % SIDE < SIDE - 1 ? place + 1 : NONE;
                default: return place < PLACES - SIDE ? place + SIDE : NONE;
            }
        }

        private void findFlows() {
            for (int place = 0; place < PLACES; place++) {
                flows[place] = lowestBelow(place);
            }
        }

        private int lowestBelow(int place) {
            int lowest = NONE;
            int height = heightOf(place);
            for (int side = 0; side < SIDES_OF_A_PLACE; side++) {
                int beside = neighbour(place, side);
                if (isPlace(beside) && heights[beside] < height) {
                    lowest = beside;
                    height = heights[beside];
                }
            }
            return lowest;
        }

        int flowsBetween(int from, int to) {
            int at = from;
            for (int flowed = 0; flowed < PLACES && at != NONE; flowed++) {
                if (at == to) {
                    return flowed;
                }
                at = flowOf(at);
            }
            return NONE;
        }

        int watersOf(int place) {
            int waters = 0;
            for (int from = 0; from < PLACES; from++) {
                waters += oneIf(flowsBetween(from, place) != NONE);
            }
            return waters;
        }

        int sinks() {
            int sinks = 0;
            for (int place = 0; place < PLACES; place++) {
                sinks += oneIf(flows[place] == NONE);
            }
            return sinks;
        }

        boolean doesAllWaterRest() {
            for (int place = 0; place < PLACES; place++) {
                int at = place;
                for (int flowed = 0; flowed < PLACES && flowOf(at) != NONE; flowed++) {
                    at = flowOf(at);
                }
                if (flowOf(at) != NONE) {
                    return false;
                }
            }
            return true;
        }
    }

    /** The lode, the samples, and where and with which grades the lode can be by them. */
    private static final class Search {
        private int lodePlace = 14;
        private int lodeGrade = 100;
        private int taken;
        private final int[] samples = new int[PLACES];
        // Each sample leaves of a place's grades those between two bounds, so that two numbers tell them all.
        private final int[] leastGrades = new int[PLACES];
        private final int[] mostGrades = new int[PLACES];
        private final int[] changes = new int[MOST_GRADE + 2];

        Search() {
            forgetSamples();
        }

        void forgetSamples() {
            taken = 0;
            Arrays.fill(samples, NONE);
            Arrays.fill(leastGrades, 1);
            Arrays.fill(mostGrades, MOST_GRADE);
        }

        void hideLode(int place, int grade) {
            lodePlace = place;
            lodeGrade = grade;
            forgetSamples();
        }

        static int grainsLeft(int grade, int steps) {
            return steps < 0 ? 0 : grade / (1 + steps);
        }

        int grainsAt(Ground ground, int place) {
            return grainsLeft(lodeGrade, ground.flowsBetween(lodePlace, place));
        }

        int sampleOf(int place) {
            return isPlace(place) ? samples[place] : NONE;
        }

        boolean isSampled(int place) {
            return sampleOf(place) != NONE;
        }

        int gradesOf(int place) {
            return isPlace(place) ? Math.max(0, mostGrades[place] - leastGrades[place] + 1) : 0;
        }

        int openPlaces() {
            int open = 0;
            for (int place = 0; place < PLACES; place++) {
                open += oneIf(gradesOf(place) > 0);
            }
            return open;
        }

        int take(Ground ground, int place) {
            int grains = grainsAt(ground, place);
            if (isPlace(place)) {
                samples[place] = grains;
                taken++;
            }
            for (int from = 0; from < PLACES; from++) {
                keepGrades(from, ground.flowsBetween(from, place), grains);
            }
            return grains;
        }

        private void keepGrades(int from, int steps, int grains) {
            if (!isPlace(from)) {
                return;
            }
            if (steps != NONE) {
                int least = grains * (1 + steps);
                leastGrades[from] = Math.max(leastGrades[from], least);
                mostGrades[from] = Math.min(mostGrades[from], least + steps);
            } else if (grains > 0) {
                mostGrades[from] = 0;
            }
        }

        int leftAtWorst(Ground ground, int place) {
            if (isSampled(place)) {
                return openPlaces();
            }
            Arrays.fill(changes, 0);
            for (int from = 0; from < PLACES; from++) {
                if (gradesOf(from) > 0) {
                    countGrains(from, ground.flowsBetween(from, place));
                }
            }
            int left = 0;
            int most = 0;
            for (int grains = 0; grains <= MOST_GRADE; grains++) {
                left += changes[grains];
                most = Math.max(most, left);
            }
            return most;
        }

        /** Grades in a row give grains in a row: one place more from the least grains on, one fewer behind the most. */
        private void countGrains(int from, int steps) {
            if (!isPlace(from)) {
                return;
            }
            int least = grainsLeft(leastGrades[from], steps);
            int most = grainsLeft(mostGrades[from], steps);
            if (least >= 0 && least <= most && most <= MOST_GRADE) {
                changes[least]++;
                changes[most + 1]--;
            }
        }

        char signOf(int place) {
            if (isSampled(place)) {
                return sampleOf(place) > 0 ? '*' : 'o';
            }
            return gradesOf(place) > 0 ? '?' : '.';
        }

        boolean areSamplesTrue(Ground ground) {
            for (int place = 0; place < PLACES; place++) {
                if (isSampled(place) && sampleOf(place) != grainsAt(ground, place)) {
                    return false;
                }
            }
            return true;
        }
    }

    /** The claims, and the day by which they lapse. */
    private static final class Claims {
        private int today;
        private int count;
        private final int[] owners = new int[MOST_CLAIMS];
        private final int[] firsts = new int[MOST_CLAIMS];
        private final int[] lasts = new int[MOST_CLAIMS];
        private final int[] begins = new int[MOST_CLAIMS];

        boolean isClaim(int claim) {
            return claim >= 0 && claim < count && claim < MOST_CLAIMS;
        }

        boolean areAllStaked() {
            return count >= MOST_CLAIMS;
        }

        int add(int prospector, int from, int to) {
            if (areAllStaked()) {
                return NONE;
            }
            int claim = count;
            count++;
            if (isClaim(claim)) {
                owners[claim] = prospector;
                firsts[claim] = from;
                lasts[claim] = to;
                begins[claim] = today;
            }
            return claim;
        }

        int passDays(int days) {
            int before = liveOnes();
            today += days;
            return before - liveOnes();
        }

        void beginAnew(int claim) {
            if (isClaim(claim)) {
                begins[claim] = today;
            }
        }

        int ownerOf(int claim) {
            return isClaim(claim) ? owners[claim] : NONE;
        }

        int firstOf(int claim) {
            return isClaim(claim) ? firsts[claim] : NONE;
        }

        int lastOf(int claim) {
            return isClaim(claim) ? lasts[claim] : NONE;
        }

        int sizeOf(int claim) {
            return isClaim(claim) ? placesBetween(firsts[claim], lasts[claim]) : 0;
        }

        int daysGone(int claim) {
            return isClaim(claim) ? today - begins[claim] : 0;
        }

        boolean hasLapsed(int claim) {
            return isClaim(claim) && today - begins[claim] >= DAYS_TO_LAPSE;
        }

        static int placesBetween(int first, int last) {
            return (last / SIDE - first / SIDE + 1) * (last % SIDE - first % SIDE + 1);
        }

        static boolean isBetween(int place, int first, int last) {
            return place / SIDE >= first / SIDE && place / SIDE <= last / SIDE
                && place % SIDE >= first % SIDE && place % SIDE <= last % SIDE;
        }

        boolean holds(int claim, int place) {
            return isClaim(claim) && isBetween(place, firsts[claim], lasts[claim]);
        }

        int liveAt(int place) {
            for (int claim = 0; claim < count; claim++) {
                if (holds(claim, place) && !hasLapsed(claim)) {
                    return claim;
                }
            }
            return NONE;
        }

        int liveOnes() {
            int live = 0;
            for (int claim = 0; claim < count; claim++) {
                live += oneIf(!hasLapsed(claim));
            }
            return live;
        }

        int liveOf(int prospector) {
            int live = 0;
            for (int claim = 0; claim < count; claim++) {
                live += oneIf(ownerOf(claim) == prospector && !hasLapsed(claim));
            }
            return live;
        }

        boolean isAnyTaken(int first, int last) {
            for (int place = 0; place < PLACES; place++) {
                if (isBetween(place, first, last) && liveAt(place) != NONE) {
                    return true;
                }
            }
            return false;
        }

        boolean doAnyOverlap() {
            for (int place = 0; place < PLACES; place++) {
                int live = 0;
                for (int claim = 0; claim < count; claim++) {
                    live += oneIf(holds(claim, place) && !hasLapsed(claim));
                }
                if (live > 1) {
                    return true;
                }
            }
            return false;
        }
    }

    /** The best ditches to one place, of one prospector. */
    private static final class Ditches {
        // A ditch's cost and its places in one number: no ditch has as many places as this, so cost goes ahead.
        private static final int COST_UNIT = 64;

        private final int[] prices = new int[PLACES];
        private final int[] bests = new int[PLACES];

        void setPrices(Claims claims, int prospector) {
            for (int place = 0; place < PLACES; place++) {
                int claim = claims.liveAt(place);
                boolean isForeign = claim != NONE && claims.ownerOf(claim) != prospector;
                prices[place] = COST_OF_A_PLACE + (isForeign ? COST_OF_A_FOREIGN_PLACE : 0);
            }
        }

        /** Asks from the end backwards, so that a ditch can then be followed by the smallest next place. */
        void survey(Ground ground, int fall, int to) {
            Arrays.fill(bests, NONE);
            if (isPlace(to)) {
                bests[to] = 0;
            }
            boolean isBetter = true;
            for (int round = 0; round < PLACES && isBetter; round++) {
                isBetter = false;
                for (int place = 0; place < PLACES; place++) {
                    int best = bestFrom(ground, fall, place);
                    if (best != NONE && (bests[place] == NONE || best < bests[place])) {
                        bests[place] = best;
                        isBetter = true;
                    }
                }
            }
        }

        private int bestFrom(Ground ground, int fall, int place) {
            int best = NONE;
            for (int side = 0; side < SIDES_OF_A_PLACE; side++) {
                int through = bestThrough(ground, fall, place, Ground.neighbour(place, side));
                if (through != NONE && (best == NONE || through < best)) {
                    best = through;
                }
            }
            return best;
        }

        private int bestThrough(Ground ground, int fall, int place, int next) {
            if (!isPlace(next) || bests[next] == NONE) {
                return NONE;
            }
            int drop = ground.heightOf(place) - ground.heightOf(next);
            return drop >= 0 && drop <= fall ? bests[next] + prices[next] * COST_UNIT + 1 : NONE;
        }

        int costFrom(int place) {
            return isPlace(place) && bests[place] != NONE ? bests[place] / COST_UNIT : NONE;
        }

        int nextAfter(Ground ground, int fall, int place) {
            int best = bestFrom(ground, fall, place);
            for (int side = 0; side < SIDES_OF_A_PLACE; side++) {
                int next = Ground.neighbour(place, side);
                if (best != NONE && bestThrough(ground, fall, place, next) == best) {
                    return next;
                }
            }
            return NONE;
        }
    }

    /** The heaps before the mill, kept in the best order. */
    private static final class Heaps {
        private int count;
        private final int[] tons = new int[MOST_HEAPS];
        private final int[] worths = new int[MOST_HEAPS];
        private final int[] order = new int[MOST_HEAPS];

        boolean isFull() {
            return count >= MOST_HEAPS;
        }

        private boolean isHeap(int heap) {
            return heap >= 0 && heap < count && heap < MOST_HEAPS;
        }

        int inOrder(int nth) {
            return isHeap(nth) ? order[nth] : NONE;
        }

        /** Where neither of two waits less ahead of the other, the older one stays ahead: it has the smaller number. */
        int add(int weight, int worth) {
            if (isFull()) {
                return NONE;
            }
            int heap = count;
            count++;
            if (isHeap(heap)) {
                tons[heap] = weight;
                worths[heap] = worth;
                int at = heap;
                while (at > 0 && isBetterAhead(heap, order[at - 1])) {
                    order[at] = order[at - 1];
                    at--;
                }
                order[at] = heap;
            }
            return heap;
        }

        void clear() {
            count = 0;
        }

        /** Of two side by side, only the waiting of the one behind for the one ahead hangs on which goes first. */
        private boolean isBetterAhead(int heap, int other) {
            return isHeap(heap) && isHeap(other)
                && tons[heap] * worths[other] < tons[other] * worths[heap];
        }

        int waiting() {
            int hour = 0;
            int waiting = 0;
            for (int nth = 0; nth < count; nth++) {
                int heap = inOrder(nth);
                if (isHeap(heap)) {
                    hour += tons[heap];
                    waiting += worths[heap] * hour;
                }
            }
            return waiting;
        }

        boolean isOrderBest() {
            for (int nth = 1; nth < count; nth++) {
                if (isBetterAhead(inOrder(nth), inOrder(nth - 1))) {
                    return false;
                }
            }
            return true;
        }
    }
}
