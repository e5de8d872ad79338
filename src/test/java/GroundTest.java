/** Promises 1, 2, 3, 12 and 13: a new object, heights, the lode, what is asked of places and steps. */
public final class GroundTest {
    private GroundTest() {
    }

    public static void main(String[] args) {
        newObject();
        heights();
        lode();
        placeFacts();
        flows();
        steps();
        Checks.end();
    }

    private static void newObject() {
        Steplode field = new Steplode();
        int[] facts = {0, 0, 36, -1, 0, 0, 0, 10, 20, 0, 0, 0, 1};
        for (int what = 0; what < facts.length; what++) {
            int asked = what;
            Checks.due("1: field " + what + " of a new object", facts[what], () -> field.field(asked));
        }
        for (int place = 0; place < 36; place++) {
            int asked = place;
            int want = 6 * ((5 - place / 6) + (5 - place % 6));
            Checks.due("1: height at first of " + place, want, () -> field.ofPlace(asked, 0));
            Checks.due("1: no sample at first of " + place, -1, () -> field.ofPlace(asked, 2));
            Checks.due("1: grades at first of " + place, 200, () -> field.ofPlace(asked, 6));
        }
        Checks.due("1: height of the place 0", 60, () -> field.ofPlace(0, 0));
        Checks.due("1: height of the place 35", 0, () -> field.ofPlace(35, 0));
        Checks.due("1: grade of the lode at first", 100, () -> field.sample(14));
        Checks.due("1: place of the lode at first", 14, () -> field.lode(0, 1));
        Checks.due("1: a new object is sound", true, () -> new Steplode().isSound());
    }

    private static void heights() {
        Steplode field = new Steplode();
        Checks.due("2: the height before", 60, () -> field.height(0, 99));
        Checks.due("2: the height before is that told last", 99, () -> field.height(0, 0));
        Checks.due("2: the height is told", 0, () -> field.ofPlace(0, 0));
        Checks.due("2: the last place", 0, () -> field.height(35, 1));
        field.sample(14);
        Checks.due("2: a sample is there", 1, () -> field.field(1));
        Checks.due("2: the same height", 1, () -> field.height(35, 1));
        Checks.due("2: all samples are gone, for the same height too", 0, () -> field.field(1));
        Checks.due("2: no sample is kept", -1, () -> field.ofPlace(14, 2));
        Checks.due("2: nothing is ruled out any more", 36, () -> field.field(2));
        Checks.due("2: a place may be sampled again", 100, () -> field.sample(14));
    }

    private static void lode() {
        Steplode field = new Steplode();
        field.sample(14);
        Checks.due("3: the place before", 14, () -> field.lode(35, 200));
        Checks.due("3: all samples are gone", 0, () -> field.field(1));
        Checks.due("3: nothing is ruled out any more", 36, () -> field.field(2));
        Checks.due("3: the grade", 200, () -> field.sample(35));
        Checks.due("3: the place before again", 35, () -> field.lode(0, 1));
        Checks.due("3: the least grade", 1, () -> field.sample(0));
        Checks.due("3: the same place", 0, () -> field.lode(0, 1));
        Checks.due("3: samples are gone for the same lode too", 0, () -> field.field(1));
    }

    private static void placeFacts() {
        Steplode field = new Steplode();
        field.stake(2, 14, 15);
        field.sample(15);
        // At first every place flows right (of two as low, that with the smaller number), and down the last column.
        int[] want = {36, 15, -1, 0, 0, 3, 2};
        for (int what = 0; what <= 6; what++) {
            int asked = what;
            Checks.due("12: fact " + what + " of the place 14", want[what], () -> field.ofPlace(14, asked));
        }
        Checks.due("12: grains of a sample", 50, () -> field.ofPlace(15, 2));
        Checks.due("12: one that is ruled out", 1, () -> field.ofPlace(16, 3));
        Checks.due("12: with no grade", 0, () -> field.ofPlace(16, 6));
        Checks.due("12: in no claim", -1, () -> field.ofPlace(16, 4));
        Checks.due("12: a sink flows nowhere", -1, () -> field.ofPlace(35, 1));
        Checks.due("12: all water comes to the place 35", 36, () -> field.ofPlace(35, 5));
        Checks.due("12: none but its own", 1, () -> field.ofPlace(0, 5));
        field.pass(30);
        Checks.due("12: a claim that has lapsed is none", -1, () -> field.ofPlace(14, 4));
        field.stake(1, 8, 14);
        Checks.due("12: that which has not lapsed", 1, () -> field.ofPlace(14, 4));
        Checks.due("12: grains none", 0, () -> { field.sample(0); return field.ofPlace(0, 2); });
    }

    private static void flows() {
        Steplode field = Fields.level(50);
        Checks.due("12: level ground has sinks alone", 36, () -> field.field(12));
        Checks.due("12: water does not go to one as high", -1, () -> field.ofPlace(14, 1));
        field.height(20, 49);
        Checks.due("12: it goes to one that is lower", 20, () -> field.ofPlace(14, 1));
        field.height(15, 49);
        Checks.due("12: of two as low, to the smaller number", 15, () -> field.ofPlace(14, 1));
        field.height(8, 49);
        Checks.due("12: above ahead of the side", 8, () -> field.ofPlace(14, 1));
        field.height(13, 48);
        Checks.due("12: to the lowest", 13, () -> field.ofPlace(14, 1));
        field.height(5, 10);
        Checks.due("12: rows do not go on in the next one", -1, () -> field.ofPlace(6, 1));
        field.height(0, 49);
        Checks.due("12: from the first place of a row upwards", 0, () -> field.ofPlace(6, 1));
        field.height(35, 49);
        Checks.due("12: to the last place of a column downwards", 35, () -> field.ofPlace(29, 1));
        field.height(30, 49);
        Checks.due("12: to the first place of the last row", 30, () -> field.ofPlace(31, 1));
        Checks.due("12: how many places water comes from", 5, () -> field.ofPlace(13, 5));
    }

    private static void steps() {
        Steplode field = new Steplode();
        Checks.due("13: to itself", 0, () -> field.steps(7, 7));
        Checks.due("13: along the row and down", 10, () -> field.steps(0, 35));
        Checks.due("13: not back", -1, () -> field.steps(35, 0));
        Checks.due("13: not to one beside the stream", -1, () -> field.steps(0, 6));
        Checks.due("13: one flow", 1, () -> field.steps(0, 1));
        Checks.due("13: a long stream", 20, () -> Fields.longStream().steps(0, 35));
        Checks.due("13: a part of it", 8, () -> Fields.longStream().steps(11, 24));
        Checks.due("13: a wall flows into its lowest neighbour", 5, () -> Fields.longStream().steps(10, 12));
    }
}
