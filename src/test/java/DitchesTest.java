/** Promises 19 and 20: what a ditch costs, and its places. */
public final class DitchesTest {
    private DitchesTest() {
    }

    public static void main(String[] args) {
        down();
        levelGround();
        falls();
        claims();
        leastCostAheadOfFewestPlaces();
        longest();
        Checks.end();
    }

    private static void ditch(String what, int cost, String way, Steplode field, int prospector, int from, int to) {
        Checks.due("19: " + what, cost, () -> field.ditch(prospector, from, to));
        Checks.due("20: " + what, way, () -> field.way(prospector, from, to));
    }

    private static void down() {
        Steplode field = new Steplode();
        ditch("to itself", 0, "7", field, 0, 7, 7);
        ditch("to a neighbour", 5, "7-8", field, 0, 7, 8);
        ditch("of several the smallest second place", 10, "0-1-7", field, 0, 0, 7);
        ditch("then the smallest third one", 50, "0-1-2-3-4-5-11-17-23-29-35", field, 3, 0, 35);
        ditch("not up", -1, "none", field, 0, 7, 1);
        ditch("not up and down", -1, "none", field, 0, 1, 6);
        long before = field.digest();
        field.way(1, 0, 35);
        field.ditch(1, 0, 35);
        Checks.due("20: nothing is changed", before, () -> field.digest());
    }

    private static void levelGround() {
        Steplode field = Fields.level(7);
        ditch("on level ground it goes back, too", 50, "35-29-23-17-11-5-4-3-2-1-0", field, 0, 35, 0);
        ditch("rows do not go on in the next one", 30, "5-4-3-2-1-0-6", field, 0, 5, 6);
        field.height(8, 8);
        field.height(13, 8);
        ditch("not even one up", 20, "14-20-19-18-12", field, 0, 14, 12);
        field.height(8, 7);
        field.height(13, 7);
        ditch("smallest second place", 10, "14-8-7", field, 0, 14, 7);
    }

    private static void falls() {
        Steplode field = Fields.longStream();
        for (int place = 0; place < 6; place++) {
            field.height(place, 60);
        }
        field.height(1, 50);
        field.height(2, 50);
        ditch("as low as the fall", 10, "0-1-2", field, 0, 0, 2);
        field.height(1, 49);
        field.height(2, 49);
        ditch("lower than the fall", -1, "none", field, 0, 0, 2);
        field.rules(11, 20);
        ditch("the fall told anew", 10, "0-1-2", field, 0, 0, 2);
        field.rules(1, 20);
        field.height(1, 59);
        field.height(2, 58);
        ditch("the least fall", 10, "0-1-2", field, 0, 0, 2);
        field.rules(30, 20);
        field.height(1, 30);
        ditch("the greatest fall, but then up", -1, "none", field, 0, 0, 2);
        ditch("the greatest fall", 5, "0-1", field, 0, 0, 1);
        field.height(1, 29);
        ditch("more than the greatest fall", -1, "none", field, 0, 0, 1);
    }

    private static void claims() {
        Steplode field = new Steplode();
        field.stake(1, 1, 1);
        ditch("round a foreign claim", 10, "0-6-7", field, 0, 0, 7);
        ditch("through its own claim", 10, "0-1-7", field, 1, 0, 7);
        ditch("into a foreign claim", 25, "0-1", field, 2, 0, 1);
        ditch("from a foreign claim", 5, "1-2", field, 0, 1, 2);
        ditch("to itself in a foreign claim", 0, "1", field, 0, 1, 1);
        field.stake(2, 6, 7);
        ditch("through foreign claims", 50, "0-1-7", field, 0, 0, 7);
        ditch("its own claims are the cheaper ones", 10, "0-6-7", field, 2, 0, 7);
        field.pass(29);
        field.work(1);
        field.pass(1);
        ditch("a claim that has lapsed is free", 30, "0-1-7", field, 0, 0, 7);
    }

    private static void leastCostAheadOfFewestPlaces() {
        Steplode field = Fields.level(7);
        field.stake(1, 1, 1);
        // Round the claim are two places more: 10 against 20.
        ditch("longer, but cheaper", 20, "0-6-7-8-2", field, 0, 0, 2);
        field.stake(1, 7, 13);
        ditch("longer still it would be as dear as through the claim", 30, "0-1-2", field, 0, 0, 2);
        Steplode ring = Fields.ring();
        ring.stake(1, 7, 7);
        ditch("of one cost that with the fewest places", 30, "6-7-8", ring, 0, 6, 8);
        Steplode below = Fields.ring();
        below.stake(1, 19, 19);
        ditch("though the longer one goes to a smaller place first", 30, "18-19-20", below, 0, 18, 20);
        ring.stake(1, 8, 8);
        ditch("likewise", 50, "6-7-8", ring, 0, 6, 8);
        ring.pass(29);
        ring.stake(1, 12, 12);
        ring.pass(1);
        ditch("the shorter one behind the lapse", 10, "6-7-8", ring, 0, 6, 8);
    }

    private static void longest() {
        Steplode field = Fields.longStream();
        ditch("a long one", 100, "0-1-2-3-4-5-11-17-16-15-14-13-12-18-24-25-26-27-28-29-35", field, 0, 0, 35);
        field.stake(1, 0, 5);
        field.stake(1, 12, 17);
        field.stake(1, 24, 29);
        Checks.due("19: a long and dear one", 440, () -> field.ditch(0, 0, 35));
        Checks.due("19: its own", 100, () -> field.ditch(1, 0, 35));
    }
}
