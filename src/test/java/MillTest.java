/** Promises 10, 11, 21, 22 and 23: heaps, the mill and its order, whether all is sound, the checksum. */
public final class MillTest {
    private MillTest() {
    }

    public static void main(String[] args) {
        heap();
        mill();
        order();
        orderOfEqualOnes();
        sound();
        digest();
        digestOfTheProspector();
        digestOfAll();
        Checks.end();
    }

    private static void heap() {
        Steplode field = new Steplode();
        Checks.due("10: the first", 0, () -> field.heap(1, 1));
        Checks.due("10: the second", 1, () -> field.heap(50, 50));
        Checks.due("10: how many", 2, () -> field.field(9));
        for (int heap = 2; heap < 6; heap++) {
            int number = heap;
            Checks.due("10: heap " + heap, heap, () -> field.heap(number, 1));
        }
        Checks.due("10: a seventh", Checks.STATE, () -> field.heap(1, 1));
        field.mill();
        Checks.due("10: 0 again behind the mill", 0, () -> field.heap(1, 1));
    }

    private static void mill() {
        Steplode field = new Steplode();
        Checks.due("11: without heaps", 0, () -> field.mill());
        field.heap(50, 50);
        Checks.due("11: one heap", 2500, () -> field.mill());
        Checks.due("11: heaps are gone", 0, () -> field.field(9));
        Checks.due("11: nothing waits", 0, () -> field.field(10));
        Checks.due("11: all that was crushed", 2500, () -> field.field(11));
        field.heap(3, 1);
        field.heap(1, 3);
        Checks.due("11: 3 * 1 and 1 * 4", 7, () -> field.field(10));
        Checks.due("11: likewise by the mill", 7, () -> field.mill());
        Checks.due("11: together", 2507, () -> field.field(11));
        Checks.due("11: the mill is empty", 0, () -> field.mill());
        for (int heap = 0; heap < 6; heap++) {
            field.heap(50, 50);
        }
        Checks.due("11: the most", 2500 * 21, () -> field.mill());
    }

    private static void orderIs(String what, Steplode field, int... want) {
        for (int nth = 0; nth < want.length; nth++) {
            int asked = nth;
            Checks.due("21: " + what + ", nth " + nth, want[nth], () -> field.heapAt(asked));
        }
    }

    private static void order() {
        Steplode field = new Steplode();
        field.heap(10, 1);
        orderIs("one", field, 0);
        field.heap(1, 10);
        orderIs("the light and dear one first", field, 1, 0);
        field.heap(5, 5);
        orderIs("one between them", field, 1, 2, 0);
        field.heap(50, 1);
        field.heap(1, 50);
        field.heap(2, 21);
        orderIs("all six", field, 4, 5, 1, 2, 0, 3);
        field.mill();
        field.heap(7, 7);
        orderIs("anew behind the mill", field, 0);
    }

    private static void orderOfEqualOnes() {
        Steplode field = new Steplode();
        field.heap(4, 6);
        field.heap(2, 3);
        field.heap(3, 5);
        field.heap(6, 9);
        orderIs("of equal ones the smallest first", field, 2, 0, 1, 3);
        field.heap(2, 3);
        field.heap(1, 9);
        orderIs("with one more of them", field, 5, 2, 0, 1, 3, 4);
    }

    private static void sound() {
        Steplode field = new Steplode();
        Checks.due("22: at first", true, () -> field.isSound());
        field.lode(14, 200);
        field.sample(35);
        field.stake(0, 0, 14);
        field.pass(30);
        field.stake(1, 7, 7);
        field.heap(5, 1);
        field.heap(1, 5);
        field.dig(3);
        Checks.due("22: with all in it", true, () -> field.isSound());
        field.height(20, 99);
        Checks.due("22: behind another height", true, () -> field.isSound());
        for (int place = 0; place < 36; place++) {
            field.sample(place);
        }
        Checks.due("22: with all sampled", true, () -> field.isSound());
    }

    private static void digest() {
        Steplode field = new Steplode();
        long first = Fields.checksum(new Steplode());
        Checks.due("23: of a new object", first, () -> field.digest());
        Checks.due("23: it changes nothing", first, () -> field.digest());
        field.dig(35);
        Checks.due("23: of another one", Fields.checksum(field), () -> field.digest());
        Checks.due("23: it tells them apart", true, () -> field.digest() != first);
    }

    private static void digestOfTheProspector() {
        Steplode field = new Steplode();
        field.stake(1, 35, 35);
        Checks.due("23: the ditch of the prospector 0 is dearer", 70, () -> field.ditch(0, 0, 35));
        Checks.due("23: than that of 1", 50, () -> field.ditch(1, 0, 35));
        Checks.due("23: it is that of 0", Fields.checksum(field), () -> field.digest());
    }

    private static void digestOfAll() {
        Steplode field = new Steplode();
        field.stake(2, 0, 14);
        field.pass(30);
        field.stake(1, 7, 7);
        field.heap(5, 1);
        field.heap(1, 5);
        field.heap(3, 3);
        field.sample(15);
        field.rules(6, 50);
        Checks.due("23: with claims, heaps and samples", Fields.checksum(field), () -> field.digest());
        Steplode sampled = new Steplode();
        for (int place = 0; place < 36; place++) {
            sampled.sample(place);
        }
        Checks.due("23: with all sampled", Fields.checksum(sampled), () -> sampled.digest());
    }
}
