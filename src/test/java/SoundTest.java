import java.lang.reflect.Field;

/**
 * Promise 22 where it is broken. No run of calls comes there, so the state inside is reached by reflection: whoever
 * names the class's fields anew names them here, too.
 */
public final class SoundTest {
    private SoundTest() {
    }

    public static void main(String[] args) throws ReflectiveOperationException {
        lodeRuledOut();
        placeInTwoClaims();
        sampleUntrue();
        heapsInAWorseOrder();
        waterInARound();
        Checks.end();
    }

    private static void lodeRuledOut() throws ReflectiveOperationException {
        Steplode field = new Steplode();
        inside(field, "search", "mostGrades")[14] = 0;
        Checks.due("22: the place of the lode is ruled out", false, () -> field.isSound());
    }

    private static void placeInTwoClaims() throws ReflectiveOperationException {
        Steplode field = new Steplode();
        field.stake(0, 35, 35);
        field.stake(1, 34, 34);
        inside(field, "claims", "lasts")[1] = 35;
        Checks.due("22: a place is in two claims", false, () -> field.isSound());
        Checks.due("23: the checksum ends with 0 then", Fields.checksum(field), () -> field.digest());
        Steplode first = new Steplode();
        first.stake(0, 0, 0);
        first.stake(1, 1, 1);
        inside(first, "claims", "firsts")[1] = 0;
        Checks.due("22: the place 0 is in two claims", false, () -> first.isSound());
        field.pass(30);
        Checks.due("22: both have lapsed", true, () -> field.isSound());
    }

    private static void sampleUntrue() throws ReflectiveOperationException {
        Steplode field = new Steplode();
        field.sample(14);
        inside(field, "search", "samples")[14] = 99;
        Checks.due("22: a sample is not the grains", false, () -> field.isSound());
        Steplode first = new Steplode();
        inside(first, "search", "samples")[0] = 1;
        Checks.due("22: that of the place 0", false, () -> first.isSound());
    }

    private static void heapsInAWorseOrder() throws ReflectiveOperationException {
        Steplode field = new Steplode();
        field.heap(1, 5);
        field.heap(5, 1);
        field.heap(2, 2);
        int[] order = inside(field, "heaps", "order");
        order[0] = 2;
        order[1] = 0;
        order[2] = 1;
        Checks.due("22: two heaps would wait less the other way round", false, () -> field.isSound());
        order[0] = 0;
        order[1] = 1;
        order[2] = 2;
        Checks.due("22: the last two", false, () -> field.isSound());
        order[1] = 2;
        order[2] = 1;
        Checks.due("22: in the best order", true, () -> field.isSound());
    }

    private static void waterInARound() throws ReflectiveOperationException {
        Steplode field = new Steplode();
        inside(field, "ground", "flows")[35] = 34;
        Checks.due("22: water goes round", false, () -> field.isSound());
        Steplode first = new Steplode();
        inside(first, "ground", "flows")[0] = 0;
        Checks.due("22: that of the place 0 alone", false, () -> first.isSound());
    }

    private static int[] inside(Steplode field, String part, String row) throws ReflectiveOperationException {
        return (int[]) open(open(field, part), row);
    }

    private static Object open(Object owner, String name) throws ReflectiveOperationException {
        Field inside = owner.getClass().getDeclaredField(name);
        inside.setAccessible(true);
        return inside.get(owner);
    }
}
