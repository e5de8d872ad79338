/** Sentences with a boundary on ditches: promises 19 and 20. */
final class BoundsOfDitches {
    private static final int[] NO_PROSPECTORS = {-1, 4, Integer.MIN_VALUE, Integer.MAX_VALUE};

    private BoundsOfDitches() {
    }

    static void all() {
        ofTheDescription();
        Sentences.tell(19, "Returns COST of the DITCH; NONE without one.", BoundsOfDitches::costFewestAndMost);
        Sentences.tell(19, "Throws `IndexOutOfBoundsException` if prospector is not 0 to 3, or there is no such PLACE, "
            + "of both", BoundsOfDitches::ditchOfNobodyOrNowhere);
        Sentences.tell(20, "Returns the DITCH: its PLACES with \"-\" between; \"none\" without one.",
            BoundsOfDitches::wayShortestAndLongest);
        Sentences.tell(20, "Throws `IndexOutOfBoundsException` if prospector is not 0 to 3, or there is no such PLACE, "
            + "of both", BoundsOfDitches::wayOfNobodyOrNowhere);
    }

    private static void ofTheDescription() {
        int part = Sentences.DESCRIPTION;
        Sentences.tell(part, "(to itself: that PLACE alone)", BoundsOfDitches::toItself);
        Sentences.tell(part, "each a NEIGHBOUR of the one ahead", BoundsOfDitches::overNeighboursAlone);
        Sentences.tell(part, "each one lower than that, or as high, but no more than FALL (1 to 30; 10 at first) lower",
            BoundsOfDitches::asLowAsTheFall);
        Sentences.tell(part, "5 for each PLACE of it but the first one", BoundsOfDitches::fiveButForTheFirst);
        Sentences.tell(part, "and 20 more for each of these that is in a CLAIM (that has not LAPSED) of another "
            + "PROSPECTOR than that who digs it", BoundsOfDitches::twentyInAnothersClaim);
        Sentences.tell(part, "The DITCH that is told is that with the least COST", BoundsOfDitches::leastCost);
        Sentences.tell(part, "of several that with the fewest PLACES", BoundsOfDitches::fewestPlaces);
        Sentences.tell(part, "then that whose second PLACE is the smallest, then the third one, and so on",
            BoundsOfDitches::smallestPlaces);
    }

    private static void ditch(String what, int cost, String way, Steplode field, int prospector, int from, int to) {
        Checks.due(what + ", cost", cost, () -> field.ditch(prospector, from, to));
        Checks.due(what + ", way", way, () -> field.way(prospector, from, to));
    }

    private static void toItself() {
        Steplode field = new Steplode();
        field.stake(1, 14, 14);
        for (int place = 0; place < 36; place++) {
            ditch("to itself", 0, "" + place, field, 0, place, place);
        }
    }

    private static void overNeighboursAlone() {
        Steplode field = Fields.level(5);
        for (int from = 0; from < 36; from++) {
            for (int to = from % 6; to < 36; to += 7) {
                int rows = Math.abs(from / 6 - to / 6);
                int columns = Math.abs(from % 6 - to % 6);
                int asked = to;
                int first = from;
                Checks.due(from + " to " + to, 5 * (rows + columns), () -> field.ditch(0, first, asked));
            }
        }
        Steplode rows = Fields.level(5);
        ditch("the next place in the row below", 30, "5-4-3-2-1-0-6", rows, 0, 5, 6);
        ditch("the last place in the row above", 30, "6-0-1-2-3-4-5", rows, 0, 6, 5);
        rows.height(34, 99);
        rows.height(29, 99);
        ditch("to a place that stands alone", -1, "none", rows, 0, 0, 35);
    }

    private static Steplode twoSteps(int first, int second) {
        Steplode field = Fields.level(99);
        field.height(0, 60);
        field.height(1, first);
        field.height(2, second);
        return field;
    }

    private static void asLowAsTheFall() {
        ditch("as high", 10, "0-1-2", twoSteps(60, 60), 0, 0, 2);
        ditch("1 higher", -1, "none", twoSteps(60, 61), 0, 0, 2);
        ditch("1 lower", 10, "0-1-2", twoSteps(59, 58), 0, 0, 2);
        ditch("10 lower each", 10, "0-1-2", twoSteps(50, 40), 0, 0, 2);
        ditch("10 and 11 lower", -1, "none", twoSteps(50, 39), 0, 0, 2);
        ditch("11 and 1 lower", -1, "none", twoSteps(49, 48), 0, 0, 2);
        Steplode least = twoSteps(59, 58);
        least.rules(1, 20);
        ditch("the least fall: 1 each", 10, "0-1-2", least, 0, 0, 2);
        least.height(2, 57);
        ditch("the least fall: 1 and 2", -1, "none", least, 0, 0, 2);
        Steplode greatest = twoSteps(30, 0);
        greatest.rules(30, 20);
        ditch("the greatest fall: 30 each", 10, "0-1-2", greatest, 0, 0, 2);
        greatest.rules(29, 20);
        ditch("a fall of 29: 30 each", -1, "none", greatest, 0, 0, 2);
        greatest.rules(30, 20);
        greatest.height(1, 29);
        ditch("the greatest fall: 31", -1, "none", greatest, 0, 0, 1);
    }

    private static void fiveButForTheFirst() {
        Steplode field = new Steplode();
        ditch("one place", 0, "35", field, 0, 35, 35);
        ditch("two places", 5, "34-35", field, 0, 34, 35);
        ditch("three places", 10, "33-34-35", field, 0, 33, 35);
        ditch("eleven places", 50, "0-1-2-3-4-5-11-17-23-29-35", field, 0, 0, 35);
    }

    private static void twentyInAnothersClaim() {
        Steplode field = Fields.longestStream();
        field.stake(1, 0, 0);
        ditch("the first place costs nothing", 5, "0-1", field, 0, 0, 1);
        field.stake(1, 2, 2);
        ditch("the last place costs 20 more", 30, "0-1-2", field, 0, 0, 2);
        ditch("one between costs 20 more", 35, "0-1-2-3", field, 0, 0, 3);
        ditch("not to him whose it is", 15, "0-1-2-3", field, 1, 0, 3);
        ditch("to the prospector 3 it does", 35, "0-1-2-3", field, 3, 0, 3);
        field.stake(0, 1, 1);
        ditch("his own one does not", 35, "0-1-2-3", field, 0, 0, 3);
        ditch("but to the other", 35, "0-1-2-3", field, 1, 0, 3);
        ditch("all to a third", 55, "0-1-2-3", field, 2, 0, 3);
        field.pass(29);
        ditch("29 days", 55, "0-1-2-3", field, 2, 0, 3);
        field.work(2);
        field.pass(1);
        ditch("those that have lapsed do not", 15, "0-1-2-3", field, 0, 0, 3);
        ditch("that which has not does", 35, "0-1-2-3", field, 2, 0, 3);
    }

    private static void leastCost() {
        Steplode field = new Steplode();
        field.stake(1, 1, 1);
        ditch("round a claim, as long", 10, "0-6-7", field, 0, 0, 7);
        Steplode level = Fields.level(7);
        level.stake(1, 1, 1);
        ditch("round a claim, longer", 20, "0-6-7-8-2", level, 0, 0, 2);
        ditch("through his own", 10, "0-1-2", level, 1, 0, 2);
        level.stake(2, 7, 7);
        ditch("round two claims, not longer than through them", 30, "0-1-2", level, 0, 0, 2);
        level.stake(2, 8, 8);
        level.stake(1, 2, 2);
        ditch("through two rather than far round", 50, "0-1-2", level, 0, 0, 2);
    }

    private static void fewestPlaces() {
        Steplode above = Fields.ring();
        above.stake(1, 7, 7);
        ditch("30 through a claim, and 30 round it", 30, "6-7-8", above, 0, 6, 8);
        Steplode below = Fields.ring();
        below.stake(1, 19, 19);
        ditch("though round it is the smaller place", 30, "18-19-20", below, 0, 18, 20);
        ditch("back, too", 30, "20-19-18", below, 0, 20, 18);
    }

    private static void smallestPlaces() {
        Steplode level = Fields.level(7);
        ditch("the smallest second place, upwards", 20, "14-8-2-1-0", level, 0, 14, 0);
        ditch("the smallest second place, downwards", 20, "0-1-2-8-14", level, 0, 0, 14);
        ditch("of left and down, left", 10, "14-13-19", level, 0, 14, 19);
        ditch("of right and down, right", 10, "14-15-21", level, 0, 14, 21);
        level.height(2, 8);
        ditch("then the smallest third one", 20, "0-1-7-8-14", level, 0, 0, 14);
        level.height(8, 8);
        ditch("then the smallest fourth one", 20, "0-1-7-13-14", level, 0, 0, 14);
        level.height(13, 8);
        ditch("where the smaller ones do not come there", 20, "0-6-12-18-19", level, 0, 0, 19);
    }

    private static Steplode allClaimed() {
        Steplode field = Fields.longestStream();
        int[][] claims = {{1, 0, 14}, {2, 3, 17}, {3, 18, 32}, {1, 21, 35}};
        for (int[] claim : claims) {
            field.stake(claim[0], claim[1], claim[2]);
        }
        return field;
    }

    private static String longest() {
        String way = "";
        for (int place : Fields.LONGEST) {
            way += (way.isEmpty() ? "" : "-") + place;
        }
        return way;
    }

    private static void costFewestAndMost() {
        Checks.due("to itself", 0, () -> allClaimed().ditch(0, 14, 14));
        Checks.due("the longest one", 23 * 5, () -> Fields.longestStream().ditch(0, 0, 29));
        Checks.due("the dearest one", 23 * 25, () -> allClaimed().ditch(0, 0, 29));
        Checks.due("without one", -1, () -> new Steplode().ditch(0, 35, 0));
        Steplode field = allClaimed();
        long before = field.digest();
        field.ditch(0, 0, 29);
        field.ditch(0, 29, 0);
        Checks.due("nothing is changed", before, () -> field.digest());
    }

    private static void wayShortestAndLongest() {
        Checks.due("to itself", "0", () -> new Steplode().way(0, 0, 0));
        Checks.due("to itself, the last place", "35", () -> new Steplode().way(3, 35, 35));
        Checks.due("the longest one", longest(), () -> Fields.longestStream().way(0, 0, 29));
        Checks.due("the dearest one", longest(), () -> allClaimed().way(0, 0, 29));
        Checks.due("without one", "none", () -> new Steplode().way(0, 35, 0));
        Steplode field = allClaimed();
        long before = field.digest();
        field.way(0, 0, 29);
        field.way(0, 29, 0);
        Checks.due("nothing is changed", before, () -> field.digest());
    }

    private static void ditchOfNobodyOrNowhere() {
        for (int prospector : NO_PROSPECTORS) {
            Checks.refused("prospector " + prospector, Checks.INDEX, Fields::busy, f -> f.ditch(prospector, 0, 35));
            Checks.refused("to itself", Checks.INDEX, Fields::busy, f -> f.ditch(prospector, 5, 5));
        }
        for (int place : BoundsOfGround.NO_PLACES) {
            Checks.refused("from " + place, Checks.INDEX, Fields::busy, f -> f.ditch(0, place, 35));
            Checks.refused("to " + place, Checks.INDEX, Fields::busy, f -> f.ditch(3, 0, place));
            Checks.refused("both " + place, Checks.INDEX, Fields::busy, f -> f.ditch(0, place, place));
        }
        for (int number = 0; number < 4; number++) {
            int prospector = number;
            Checks.due("prospector " + prospector, 50, () -> new Steplode().ditch(prospector, 0, 35));
        }
    }

    private static void wayOfNobodyOrNowhere() {
        for (int prospector : NO_PROSPECTORS) {
            Checks.refused("prospector " + prospector, Checks.INDEX, Fields::busy, f -> f.way(prospector, 0, 35));
            Checks.refused("to itself", Checks.INDEX, Fields::busy, f -> f.way(prospector, 5, 5));
        }
        for (int place : BoundsOfGround.NO_PLACES) {
            Checks.refused("from " + place, Checks.INDEX, Fields::busy, f -> f.way(0, place, 35));
            Checks.refused("to " + place, Checks.INDEX, Fields::busy, f -> f.way(3, 0, place));
            Checks.refused("both " + place, Checks.INDEX, Fields::busy, f -> f.way(0, place, place));
        }
        for (int number = 0; number < 4; number++) {
            int prospector = number;
            Checks.due("prospector " + prospector, "34-35", () -> new Steplode().way(prospector, 34, 35));
        }
    }
}
