import java.util.ArrayList;
import java.util.List;

/**
 * The document told again by trying everything: every grade, every value of a sample, every order of the heaps, whole
 * ditches. It shares no thought with the class, so that one fault is not made twice.
 */
final class Model {
    private static final int NONE = -1;

    private final int[] heights = new int[36];
    private final int[] samples = new int[36];
    private final List<int[]> claims = new ArrayList<>();
    private final List<int[]> heaps = new ArrayList<>();
    private int lodePlace = 14;
    private int grade = 100;
    private int today = 0;
    private int fall = 10;
    private int price = 20;
    private int paid = 0;
    private int crushed = 0;
    private boolean[][] possible = null;
    private int[][] stepsKept = null;

    Model() {
        for (int place = 0; place < 36; place++) {
            heights[place] = 60 - 6 * (place / 6 + place % 6);
        }
        forget();
    }

    private void forget() {
        for (int place = 0; place < 36; place++) {
            samples[place] = NONE;
        }
        possible = null;
        stepsKept = null;
    }

    private static void index(boolean holds) {
        if (!holds) {
            throw new IndexOutOfBoundsException();
        }
    }

    private static void argument(boolean holds) {
        if (!holds) {
            throw new IllegalArgumentException();
        }
    }

    private static void state(boolean holds) {
        if (!holds) {
            throw new IllegalStateException();
        }
    }

    private static boolean in(int number, int least, int most) {
        return least <= number && number <= most;
    }

    int height(int place, int height) {
        index(in(place, 0, 35));
        argument(in(height, 0, 99));
        int before = heights[place];
        heights[place] = height;
        forget();
        return before;
    }

    int lode(int place, int grade) {
        index(in(place, 0, 35));
        argument(in(grade, 1, 200));
        int before = lodePlace;
        lodePlace = place;
        this.grade = grade;
        forget();
        return before;
    }

    int sample(int place) {
        index(in(place, 0, 35));
        state(samples[place] == NONE);
        samples[place] = grains(lodePlace, grade, place);
        possible = null;
        return samples[place];
    }

    boolean dig(int place) {
        index(in(place, 0, 35));
        paid += 10 + heights[place];
        return place == lodePlace;
    }

    int stake(int prospector, int from, int to) {
        index(in(prospector, 0, 3) && in(from, 0, 35) && in(to, 0, 35));
        int[] claim = {prospector, from, to, today};
        argument(to / 6 >= from / 6 && to % 6 >= from % 6 && placesOf(claim).size() <= 9);
        state(claims.size() < 8);
        int own = 0;
        for (int[] other : claims) {
            if (!lapsed(other)) {
                List<Integer> both = placesOf(other);
                both.retainAll(placesOf(claim));
                state(both.isEmpty());
                own += other[0] == prospector ? 1 : 0;
            }
        }
        state(own < 3);
        claims.add(claim);
        return claims.size() - 1;
    }

    private static List<Integer> placesOf(int[] claim) {
        List<Integer> places = new ArrayList<>();
        for (int row = claim[1] / 6; row <= claim[2] / 6; row++) {
            for (int in = claim[1] % 6; in <= claim[2] % 6; in++) {
                places.add(row * 6 + in);
            }
        }
        return places;
    }

    private boolean lapsed(int[] claim) {
        return today - claim[3] >= 30;
    }

    int work(int claim) {
        index(in(claim, 0, claims.size() - 1));
        int[] worked = claims.get(claim);
        state(!lapsed(worked));
        int gone = today - worked[3];
        worked[3] = today;
        return gone;
    }

    int pass(int days) {
        argument(in(days, 1, 100));
        state(today + days <= 2000);
        int lapsed = 0;
        for (int[] claim : claims) {
            int gone = today - claim[3];
            lapsed += gone < 30 && gone + days >= 30 ? 1 : 0;
        }
        today += days;
        return lapsed;
    }

    int rules(int fall, int price) {
        argument(in(fall, 1, 30) && in(price, 1, 99));
        int before = this.fall;
        this.fall = fall;
        this.price = price;
        return before;
    }

    int heap(int tons, int worth) {
        argument(in(tons, 1, 50) && in(worth, 1, 50));
        state(heaps.size() < 6);
        heaps.add(new int[] {tons, worth});
        return heaps.size() - 1;
    }

    int mill() {
        int waiting = waiting(bestOrder());
        crushed += waiting;
        heaps.clear();
        return waiting;
    }

    private List<Integer> bestOrder() {
        return bestOrder(new ArrayList<>());
    }

    private List<Integer> bestOrder(List<Integer> begun) {
        if (begun.size() == heaps.size()) {
            return begun;
        }
        List<Integer> best = null;
        for (int heap = 0; heap < heaps.size(); heap++) {
            if (!begun.contains(heap)) {
                List<Integer> longer = new ArrayList<>(begun);
                longer.add(heap);
                List<Integer> order = bestOrder(longer);
                if (best == null || waiting(order) < waiting(best)) {
                    best = order;
                }
            }
        }
        return best;
    }

    private int waiting(List<Integer> order) {
        int hour = 0;
        int waiting = 0;
        for (int heap : order) {
            hour += heaps.get(heap)[0];
            waiting += hour * heaps.get(heap)[1];
        }
        return waiting;
    }

    private static boolean neighbours(int a, int b) {
        return Math.abs(a / 6 - b / 6) + Math.abs(a % 6 - b % 6) == 1;
    }

    private int flow(int place) {
        int to = NONE;
        for (int other = 0; other < 36; other++) {
            if (neighbours(place, other) && heights[other] < heights[place]
                    && (to == NONE || heights[other] < heights[to])) {
                to = other;
            }
        }
        return to;
    }

    int steps(int from, int to) {
        index(in(from, 0, 35) && in(to, 0, 35));
        if (stepsKept == null) {
            stepsKept = new int[36][36];
            for (int a = 0; a < 36; a++) {
                for (int b = 0; b < 36; b++) {
                    stepsKept[a][b] = flowSteps(a, b);
                }
            }
        }
        return stepsKept[from][to];
    }

    private int flowSteps(int from, int to) {
        if (from == to) {
            return 0;
        }
        int next = flow(from);
        int behind = next == NONE ? NONE : flowSteps(next, to);
        return behind == NONE ? NONE : 1 + behind;
    }

    private int grains(int lode, int grade, int place) {
        int steps = steps(lode, place);
        return steps == NONE ? 0 : grade / (1 + steps);
    }

    private boolean[][] possible() {
        if (possible == null) {
            possible = new boolean[36][201];
            for (int lode = 0; lode < 36; lode++) {
                for (int g = 1; g <= 200; g++) {
                    possible[lode][g] = gives(lode, g);
                }
            }
        }
        return possible;
    }

    private boolean gives(int lode, int g) {
        for (int place = 0; place < 36; place++) {
            if (samples[place] != NONE && samples[place] != grains(lode, g, place)) {
                return false;
            }
        }
        return true;
    }

    private int grades(int place) {
        int grades = 0;
        for (boolean is : possible()[place]) {
            grades += is ? 1 : 0;
        }
        return grades;
    }

    private int open() {
        int open = 0;
        for (int place = 0; place < 36; place++) {
            open += grades(place) > 0 ? 1 : 0;
        }
        return open;
    }

    int worst(int place) {
        index(in(place, 0, 35));
        int[] left = new int[201];
        for (int lode = 0; lode < 36; lode++) {
            boolean[] given = new boolean[201];
            for (int g = 1; g <= 200; g++) {
                given[grains(lode, g, place)] |= possible()[lode][g];
            }
            for (int v = 0; v <= 200; v++) {
                left[v] += given[v] ? 1 : 0;
            }
        }
        int worst = 0;
        for (int v = 0; v <= 200; v++) {
            worst = Math.max(worst, left[v]);
        }
        return worst;
    }

    int bestSample(boolean isPlace) {
        int best = NONE;
        int fewest = 99;
        for (int place = 0; place < 36; place++) {
            if (samples[place] == NONE && worst(place) < fewest) {
                best = place;
                fewest = worst(place);
            }
        }
        return isPlace || best == NONE ? best : fewest;
    }

    private int liveClaim(int place) {
        for (int claim = 0; claim < claims.size(); claim++) {
            if (!lapsed(claims.get(claim)) && placesOf(claims.get(claim)).contains(place)) {
                return claim;
            }
        }
        return NONE;
    }

    int ofPlace(int place, int what) {
        index(in(place, 0, 35));
        argument(in(what, 0, 6));
        int waters = 0;
        for (int from = 0; from < 36; from++) {
            waters += steps(from, place) >= 0 ? 1 : 0;
        }
        int ruledOut = grades(place) == 0 ? 1 : 0;
        return new int[] {heights[place], flow(place), samples[place], ruledOut, liveClaim(place), waters,
            grades(place)}[what];
    }

    private int ore(int[] claim) {
        int ore = 0;
        for (int place : placesOf(claim)) {
            ore += grains(lodePlace, grade, place);
        }
        return ore;
    }

    int ofClaim(int claim, int what) {
        index(in(claim, 0, claims.size() - 1));
        argument(in(what, 0, 7));
        int[] c = claims.get(claim);
        List<Integer> places = placesOf(c);
        boolean pays = ore(c) * price / 10 > 5 * places.size();
        return new int[] {c[0], places.size(), places.get(0), places.get(places.size() - 1), lapsed(c) ? 1 : 0,
            today - c[3], ore(c), pays ? 1 : 0}[what];
    }

    int field(int what) {
        argument(in(what, 0, 12));
        int sampled = 0;
        int sinks = 0;
        int found = NONE;
        for (int place = 0; place < 36; place++) {
            sampled += samples[place] == NONE ? 0 : 1;
            sinks += flow(place) == NONE ? 1 : 0;
            found = open() == 1 && grades(place) > 0 ? place : found;
        }
        int live = 0;
        for (int[] claim : claims) {
            live += lapsed(claim) ? 0 : 1;
        }
        return new int[] {today, sampled, open(), found, live, claims.size(), paid, fall, price, heaps.size(),
            waiting(bestOrder()), crushed, sinks}[what];
    }

    String row(int row) {
        index(in(row, 0, 5));
        String signs = "";
        for (int place = row * 6; place < row * 6 + 6; place++) {
            signs += samples[place] > 0 ? "*" : samples[place] == 0 ? "o" : grades(place) > 0 ? "?" : ".";
        }
        return signs;
    }

    /** Every place's best ditch from the first place, made longer place by place till nothing gets better. */
    private Ditch bestDitch(int prospector, int from, int to) {
        index(in(prospector, 0, 3) && in(from, 0, 35) && in(to, 0, 35));
        int[] prices = new int[36];
        for (int place = 0; place < 36; place++) {
            int claim = liveClaim(place);
            prices[place] = claim != NONE && claims.get(claim)[0] != prospector ? 25 : 5;
        }
        Ditch[] best = new Ditch[36];
        best[from] = new Ditch(0, new int[] {from});
        boolean better = true;
        while (better) {
            better = false;
            for (int a = 0; a < 36; a++) {
                for (int b = 0; b < 36; b++) {
                    if (best[a] != null && neighbours(a, b) && in(heights[a] - heights[b], 0, fall)) {
                        Ditch longer = best[a].longer(b, prices[b]);
                        if (best[b] == null || longer.isBetterThan(best[b])) {
                            best[b] = longer;
                            better = true;
                        }
                    }
                }
            }
        }
        return best[to];
    }

    int ditch(int prospector, int from, int to) {
        Ditch best = bestDitch(prospector, from, to);
        return best == null ? NONE : best.cost;
    }

    String way(int prospector, int from, int to) {
        Ditch best = bestDitch(prospector, from, to);
        return best == null ? "none" : best.text();
    }

    int heapAt(int nth) {
        index(in(nth, 0, heaps.size() - 1));
        return bestOrder().get(nth);
    }

    boolean isSound() {
        return true;
    }

    long digest() {
        List<Integer> numbers = new ArrayList<>();
        for (int what = 0; what <= 12; what++) {
            numbers.add(field(what));
        }
        for (int place = 0; place < 36; place++) {
            for (int what = 0; what <= 6; what++) {
                numbers.add(ofPlace(place, what));
            }
        }
        for (int claim = 0; claim < claims.size(); claim++) {
            for (int what = 0; what <= 7; what++) {
                numbers.add(ofClaim(claim, what));
            }
        }
        numbers.add(bestSample(true));
        numbers.add(bestSample(false));
        numbers.add(ditch(0, 0, 35));
        numbers.addAll(bestOrder());
        numbers.add(1);
        long d = 6473;
        for (int v : numbers) {
            d = d * 31 + v;
        }
        return d;
    }

    /** A ditch as far as it goes. */
    private static final class Ditch {
        private final int cost;
        private final int[] places;

        Ditch(int cost, int[] places) {
            this.cost = cost;
            this.places = places;
        }

        Ditch longer(int place, int price) {
            int[] more = java.util.Arrays.copyOf(places, places.length + 1);
            more[places.length] = place;
            return new Ditch(cost + price, more);
        }

        boolean isBetterThan(Ditch other) {
            if (cost != other.cost) {
                return cost < other.cost;
            }
            if (places.length != other.places.length) {
                return places.length < other.places.length;
            }
            return java.util.Arrays.compare(places, other.places) < 0;
        }

        String text() {
            String text = "" + places[0];
            for (int n = 1; n < places.length; n++) {
                text += "-" + places[n];
            }
            return text;
        }
    }
}
