/** Promises 4, 5, 15, 16, 17 and 18: samples, digging, the field, its rows, and which sample is the best. */
public final class LodeTest {
    private LodeTest() {
    }

    public static void main(String[] args) {
        grains();
        ruledOut();
        dig();
        fieldFacts();
        found();
        rows();
        bestSample();
        worst();
        Checks.end();
    }

    private static void grains() {
        Steplode field = new Steplode();
        field.lode(0, 100);
        int[] want = {100, 50, 33, 25, 20, 16};
        for (int place = 0; place < 6; place++) {
            int asked = place;
            Checks.due("4: grains worn down at " + place, want[place], () -> field.sample(asked));
        }
        Checks.due("4: grains at the end of the stream", 9, () -> field.sample(35));
        Checks.due("4: none beside the stream", 0, () -> field.sample(6));
        Checks.due("4: a sample is kept", 33, () -> field.ofPlace(2, 2));
        Checks.due("4: a sample without grains is kept", 0, () -> field.ofPlace(6, 2));
        Steplode poor = Fields.longStream();
        poor.lode(0, 20);
        Checks.due("4: grains that are worn down to the last", 1, () -> poor.sample(29));
        Checks.due("4: and to none", 0, () -> poor.sample(35));
        Steplode rich = Fields.longStream();
        rich.lode(0, 200);
        Checks.due("4: 200 by 21", 9, () -> rich.sample(35));
        Checks.due("4: the grades that give 9 there", 12, () -> rich.ofPlace(0, 6));
    }

    private static void ruledOut() {
        Steplode field = new Steplode();
        field.sample(15);
        Checks.due("4: grades 50 of the place itself", 1, () -> field.ofPlace(15, 6));
        Checks.due("4: grades 100 and 101 one step above", 2, () -> field.ofPlace(14, 6));
        Checks.due("4: grades 150 to 152 two steps above", 3, () -> field.ofPlace(13, 6));
        Checks.due("4: grade 200 alone three steps above", 1, () -> field.ofPlace(12, 6));
        Checks.due("4: none below", 0, () -> field.ofPlace(16, 6));
        Checks.due("4: four places are left", 4, () -> field.field(2));
        field.sample(16);
        Checks.due("4: 33 of 50", 0, () -> field.ofPlace(15, 6));
        Checks.due("4: 33 of 100 and 101", 2, () -> field.ofPlace(14, 6));
        Checks.due("4: 33 of 150 to 152, by four", 0, () -> field.ofPlace(13, 6));
        field.sample(13);
        Checks.due("4: no grains above", 2, () -> field.ofPlace(14, 6));
        Steplode dry = new Steplode();
        dry.lode(35, 1);
        dry.sample(0);
        Checks.due("4: no grains rule out the place itself", 1, () -> dry.ofPlace(0, 3));
        Checks.due("4: but none from where no water comes", 35, () -> dry.field(2));
        Steplode poor = new Steplode();
        poor.lode(35, 1);
        poor.sample(35);
        poor.sample(34);
        Checks.due("4: one grain of the place itself", 1, () -> poor.ofPlace(35, 6));
        Checks.due("4: one grain, of the grades 11 to 21 ten steps above", 11, () -> poor.ofPlace(0, 6));
        Checks.due("4: the last row then", "....o*", () -> poor.row(5));
        Checks.due("4: one grain, of the grades 2 and 3 one step above", 2, () -> poor.ofPlace(29, 6));
        Steplode beside = new Steplode();
        beside.lode(0, 1);
        beside.sample(0);
        Checks.due("4: one grain where no water comes but its own", 1, () -> beside.field(2));
        dry.sample(5);
        Checks.due("4: grade 1 is worn down to none", 1, () -> dry.ofPlace(4, 6));
        Checks.due("4: grades 1 to 4", 4, () -> dry.ofPlace(1, 6));
    }

    private static void dig() {
        Steplode field = new Steplode();
        Checks.due("5: not there", false, () -> field.dig(0));
        Checks.due("5: 10 and its height", 70, () -> field.field(6));
        Checks.due("5: there", true, () -> field.dig(14));
        Checks.due("5: paid together", 116, () -> field.field(6));
        Checks.due("5: on the ground 0", false, () -> field.dig(35));
        Checks.due("5: 10 alone", 126, () -> field.field(6));
        Checks.due("5: a place may be dug again", true, () -> field.dig(14));
        Checks.due("5: and costs again", 172, () -> field.field(6));
        Checks.due("5: digging rules nothing out", 36, () -> field.field(2));
        Checks.due("5: digging is no sample", 0, () -> field.field(1));
        field.lode(35, 1);
        Checks.due("5: paid ever", 172, () -> field.field(6));
        Checks.due("5: where it is now", true, () -> field.dig(35));
    }

    private static void fieldFacts() {
        Steplode field = new Steplode();
        field.pass(7);
        field.stake(0, 0, 0);
        field.pass(30);
        field.stake(1, 1, 1);
        field.stake(1, 2, 2);
        field.rules(30, 99);
        field.heap(2, 3);
        field.mill();
        field.heap(4, 5);
        field.heap(1, 1);
        field.dig(35);
        field.height(0, 0);
        field.sample(15);
        int[] want = {37, 1, 4, -1, 2, 3, 10, 30, 99, 2, 25, 6, 2};
        for (int what = 0; what <= 12; what++) {
            int asked = what;
            Checks.due("15: fact " + what, want[what], () -> field.field(asked));
        }
    }

    private static void found() {
        Steplode field = new Steplode();
        field.sample(15);
        Checks.due("15: not found yet", -1, () -> field.field(3));
        field.sample(16);
        Checks.due("15: found", 14, () -> field.field(3));
        Checks.due("15: found with more than one grade", 2, () -> field.ofPlace(14, 6));
        field.lode(14, 100);
        Checks.due("15: told anew, it is not found", -1, () -> field.field(3));
        Steplode level = Fields.level(5);
        level.lode(35, 200);
        for (int place = 0; place < 34; place++) {
            level.sample(place);
        }
        Checks.due("15: two are left", -1, () -> level.field(3));
        level.sample(34);
        Checks.due("15: the last one is found without a sample of it", 35, () -> level.field(3));
    }

    private static void rows() {
        Steplode field = new Steplode();
        Checks.due("16: at first", "??????", () -> field.row(0));
        field.sample(15);
        field.sample(35);
        field.sample(0);
        Checks.due("16: ruled out, and sampled with none", "o.....", () -> field.row(0));
        Checks.due("16: sampled with grains", "..?*..", () -> field.row(2));
        Checks.due("16: the last row", ".....*", () -> field.row(5));
        Steplode few = new Steplode();
        few.sample(15);
        Checks.due("16: not ruled out with one grade alone", "???*..", () -> few.row(2));
        few.lode(35, 1);
        few.sample(35);
        Checks.due("16: sampled with one grain", '*', () -> few.row(5).charAt(5));
    }

    private static void bestSample() {
        Steplode field = Fields.level(5);
        Checks.due("17: the smallest of those that are as good", 0, () -> field.bestSample(true));
        Checks.due("17: no grains leave all others", 35, () -> field.bestSample(false));
        field.sample(0);
        Checks.due("17: not one that was sampled", 1, () -> field.bestSample(true));
        Checks.due("17: one fewer", 34, () -> field.bestSample(false));
        for (int place = 1; place < 35; place++) {
            field.sample(place);
        }
        Checks.due("17: the last one", 35, () -> field.bestSample(true));
        Checks.due("17: it leaves itself", 1, () -> field.bestSample(false));
        field.sample(35);
        Checks.due("17: all were sampled", -1, () -> field.bestSample(true));
        Checks.due("17: likewise", -1, () -> field.bestSample(false));
        Steplode slope = new Steplode();
        Checks.due("17: at first none is better than another", 0, () -> slope.bestSample(true));
        Checks.due("17: for grade 1 is worn down to none at once", 35, () -> slope.bestSample(false));
        slope.sample(15);
        Checks.due("17: the place that tells all that are left apart", 14, () -> slope.bestSample(true));
        Checks.due("17: one is left behind it", 1, () -> slope.bestSample(false));
        long before = slope.digest();
        slope.bestSample(true);
        Checks.due("17: nothing is changed", before, () -> slope.digest());
    }

    private static void worst() {
        Steplode field = Fields.level(5);
        Checks.due("18: none there leave the others", 35, () -> field.worst(7));
        field.lode(7, 200);
        field.sample(7);
        Checks.due("18: found, it is one", 1, () -> field.worst(8));
        Checks.due("18: as many as now, if it was sampled", 1, () -> field.worst(7));
        Steplode slope = new Steplode();
        slope.sample(15);
        Checks.due("18: as many as now", 4, () -> slope.worst(15));
        // Left are 12 with 200, 13 with 150 to 152, 14 with 100 and 101, 15 with 50: only 14 has grains at 14 of 100.
        Checks.due("18: beside the stream all stay", 4, () -> slope.worst(0));
        Checks.due("18: at 14, where 15 gives none, 66, 75 and 76, 100 and 101", 1, () -> slope.worst(14));
        Checks.due("18: at 16, 40, 37 and 38, 33, 25", 1, () -> slope.worst(16));
        Checks.due("18: at 12, three places give none", 3, () -> slope.worst(12));
        Steplode rich = new Steplode();
        rich.lode(12, 200);
        rich.sample(13);
        rich.sample(14);
        Checks.due("18: grade 200 alone is left, of one place", 1, () -> rich.field(2));
        Checks.due("18: with the most grains that can be", 1, () -> rich.worst(12));
    }
}
