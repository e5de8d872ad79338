import java.lang.reflect.Field;

/**
 * Sentences on what is sound: promise 22. No run of calls comes to where one of them does not hold, so there the state
 * inside is reached by reflection: whoever names the class's fields anew names them here, too.
 */
final class BoundsOfSound {
    private BoundsOfSound() {
    }

    static void all() {
        Sentences.tell(22, "the PLACE of the LODE is not RULED OUT", BoundsOfSound::lode);
        Sentences.tell(22, "no PLACE is in two CLAIMS that have not LAPSED", BoundsOfSound::claims);
        Sentences.tell(22, "each SAMPLE is GRAINS as they are", BoundsOfSound::samples);
        Sentences.tell(22, "no two HEAPS side by side in the BEST ORDER would wait less the other way round",
            BoundsOfSound::heaps);
        Sentences.tell(22, "water of each PLACE comes to a SINK", BoundsOfSound::water);
        Sentences.tell(23, "1 if isSound(), otherwise 0", BoundsOfSound::checksum);
    }

    private static void lode() {
        int[] lodes = {0, 14, 35};
        int[] grades = {1, 200};
        for (int lode : lodes) {
            for (int grade : grades) {
                Steplode field = new Steplode();
                field.lode(lode, grade);
                for (int place = 0; place < 36; place++) {
                    field.sample(place);
                    Checks.due("lode " + lode + " of " + grade + ", sampled to " + place, true, () -> field.isSound());
                }
            }
            Steplode field = new Steplode();
            field.lode(lode, 1);
            inside(field, "search", "mostGrades")[lode] = 0;
            Checks.due("possible with none", false, () -> field.isSound());
        }
    }

    private static void claims() {
        Steplode field = new Steplode();
        field.stake(0, 0, 14);
        Checks.due("a place is in one", true, () -> field.isSound());
        field.pass(30);
        field.stake(1, 7, 21);
        Checks.due("in one behind one that has lapsed", true, () -> field.isSound());
        field.stake(2, 0, 1);
        Checks.due("side by side", true, () -> field.isSound());
        field.stake(3, 35, 35);
        inside(field, "claims", "lasts")[2] = 7;
        Checks.due("the place 7 is in two", false, () -> field.isSound());
        inside(field, "claims", "lasts")[2] = 1;
        Checks.due("in one again", true, () -> field.isSound());
        inside(field, "claims", "lasts")[1] = 35;
        Checks.due("the place 35 is in two", false, () -> field.isSound());
        inside(field, "claims", "firsts")[1] = 0;
        inside(field, "claims", "lasts")[1] = 0;
        Checks.due("the place 0 is in two", false, () -> field.isSound());
        field.pass(30);
        Checks.due("both have lapsed", true, () -> field.isSound());
        eachTwoClaims();
    }

    private static void eachTwoClaims() {
        for (int one = 0; one < 8; one++) {
            for (int other = 0; other < one; other++) {
                Steplode eight = new Steplode();
                for (int claim = 0; claim < 8; claim++) {
                    eight.stake(claim % 4, claim, claim);
                }
                Checks.due("eight claims, no place in two", true, () -> eight.isSound());
                inside(eight, "claims", "firsts")[one] = other;
                inside(eight, "claims", "lasts")[one] = other;
                Checks.due("the claims " + other + " and " + one + " overlap", false, () -> eight.isSound());
            }
        }
    }

    private static void samples() {
        Steplode field = new Steplode();
        field.sample(35);
        field.height(20, 0);
        Checks.due("behind another height", true, () -> field.isSound());
        field.sample(35);
        field.lode(0, 3);
        Checks.due("behind another lode", true, () -> field.isSound());
        field.sample(0);
        field.sample(1);
        Checks.due("sampled again", true, () -> field.isSound());
        int[] ends = {0, 14, 35};
        for (int place : ends) {
            Steplode untrue = new Steplode();
            untrue.sample(place);
            inside(untrue, "search", "samples")[place]++;
            Checks.due("one grain more at " + place, false, () -> untrue.isSound());
            inside(untrue, "search", "samples")[place]--;
            Checks.due("as they are", true, () -> untrue.isSound());
        }
    }

    private static void heaps() {
        Checks.due("without any", true, () -> new Steplode().isSound());
        Steplode field = new Steplode();
        int[][] told = {{6, 1}, {5, 1}, {4, 1}, {2, 4}, {1, 2}, {1, 50}};
        for (int[] heap : told) {
            field.heap(heap[0], heap[1]);
            Checks.due("in the best order", true, () -> field.isSound());
        }
        int[] order = inside(field, "heaps", "order");
        swap(order, 0, 1);
        Checks.due("the first two the other way round", false, () -> field.isSound());
        swap(order, 0, 1);
        swap(order, 4, 5);
        Checks.due("the last two", false, () -> field.isSound());
        swap(order, 4, 5);
        swap(order, 1, 2);
        Checks.due("two that are as good would not wait less", true, () -> field.isSound());
    }

    private static void swap(int[] order, int one, int other) {
        int kept = order[one];
        order[one] = order[other];
        order[other] = kept;
    }

    private static void water() {
        Checks.due("on level ground", true, () -> Fields.level(0).isSound());
        Checks.due("on the longest stream", true, () -> Fields.longestStream().isSound());
        Checks.due("on a ring", true, () -> Fields.ring().isSound());
        Steplode last = new Steplode();
        inside(last, "ground", "flows")[35] = 34;
        Checks.due("it goes round at the end", false, () -> last.isSound());
        Steplode first = new Steplode();
        inside(first, "ground", "flows")[0] = 0;
        Checks.due("that of the place 0 alone", false, () -> first.isSound());
    }

    private static void checksum() {
        Steplode field = Fields.busy();
        Checks.due("sound", Fields.checksum(field), () -> field.digest());
        Checks.due("it ends with 1", 1, () -> field.isSound() ? 1 : 0);
        inside(field, "search", "samples")[15]++;
        Checks.due("not sound", false, () -> field.isSound());
        Checks.due("it ends with 0", Fields.checksum(field), () -> field.digest());
    }

    private static int[] inside(Steplode field, String part, String row) {
        try {
            return (int[]) open(open(field, part), row);
        } catch (ReflectiveOperationException e) {
            throw new IllegalStateException("the class has no such part any more: " + part + ", " + row, e);
        }
    }

    private static Object open(Object owner, String name) throws ReflectiveOperationException {
        Field inside = owner.getClass().getDeclaredField(name);
        inside.setAccessible(true);
        return inside.get(owner);
    }
}
