/** Sentences with a boundary on heaps and the mill: promises 10, 11 and 21, and of 15 what tells them. */
final class BoundsOfMill {
    private BoundsOfMill() {
    }

    static void all() {
        ofTheDescription();
        ofHeap();
        ofMill();
        ofField();
        ofHeapAt();
    }

    private static void ofTheDescription() {
        int part = Sentences.DESCRIPTION;
        Sentences.tell(part, "HEAPS: at most 6, numbered from 0, each of a weight (1 to 50 tons) and a WORTH (1 to 50).",
            BoundsOfMill::sixHeaps);
        Sentences.tell(part, "of each HEAP its WORTH times the hour at which it is done, together",
            BoundsOfMill::waitingTillItIsDone);
        Sentences.tell(part, "BEST ORDER: that with the least WAITING", BoundsOfMill::leastWaiting);
        Sentences.tell(part, "of several that with the smallest first HEAP, then the second one, and so on",
            BoundsOfMill::smallestOfThoseAsGood);
    }

    private static void ofHeap() {
        Sentences.tell(10, "Returns its number.", BoundsOfMill::numbersOfHeaps);
        Sentences.tell(10, "Throws `IllegalArgumentException` if tons or worth is not 1 to 50",
            BoundsOfMill::wrongHeaps);
        Sentences.tell(10, "Throws `IllegalStateException` if there are 6", BoundsOfMill::aSeventhHeap);
    }

    private static void ofMill() {
        Sentences.tell(11, "they are gone, and the next one is 0 again", BoundsOfMill::goneBehindTheMill);
        Sentences.tell(11, "Returns WAITING of that (0 without HEAPS).", BoundsOfMill::waitingFewestAndMost);
    }

    private static void ofField() {
        Sentences.tell(15, "9 HEAPS, 10 WAITING of the BEST ORDER (0 without HEAPS)", BoundsOfMill::heapsNow);
        Sentences.tell(15, "11 WAITING of all that the MILL crushed ever", BoundsOfMill::crushedEver);
    }

    private static void ofHeapAt() {
        Sentences.tell(21, "Returns which HEAP the MILL would crush as the nth one, from 0 on, by the BEST ORDER.",
            BoundsOfMill::firstAndLastInOrder);
        Sentences.tell(21, "Throws `IndexOutOfBoundsException` if there are not so many HEAPS, or nth is below 0",
            BoundsOfMill::notSoManyHeaps);
    }

    private static Steplode withHeaps(int... tonsAndWorths) {
        Steplode field = new Steplode();
        for (int at = 0; at < tonsAndWorths.length; at += 2) {
            field.heap(tonsAndWorths[at], tonsAndWorths[at + 1]);
        }
        return field;
    }

    static Steplode six() {
        return withHeaps(6, 1, 5, 1, 4, 1, 3, 1, 2, 1, 1, 1);
    }

    private static void order(String what, String want, int... tonsAndWorths) {
        Steplode field = withHeaps(tonsAndWorths);
        String got = "";
        for (int nth = 0; nth < tonsAndWorths.length / 2; nth++) {
            got += field.heapAt(nth);
        }
        Checks.same(what, want, got);
    }

    private static void sixHeaps() {
        Steplode field = new Steplode();
        for (int heap = 0; heap < 6; heap++) {
            int number = heap;
            Checks.due("heap " + heap, number, () -> field.heap(50, 1 + 49 * (number % 2)));
        }
        Checks.due("all six", 6, () -> field.field(9));
        Checks.refused("a seventh", Checks.STATE, BoundsOfMill::six, f -> f.heap(1, 1));
        Checks.refused("0 tons", Checks.ARGUMENT, Fields::busy, f -> f.heap(0, 50));
        Checks.refused("51 tons", Checks.ARGUMENT, Fields::busy, f -> f.heap(51, 50));
        Checks.refused("worth 0", Checks.ARGUMENT, Fields::busy, f -> f.heap(50, 0));
        Checks.refused("worth 51", Checks.ARGUMENT, Fields::busy, f -> f.heap(50, 51));
    }

    private static void waitingTillItIsDone() {
        Checks.due("a heap of one ton is done in the hour 1", 7, () -> withHeaps(1, 7).mill());
        Checks.due("a heap of 50 tons in the hour 50", 50, () -> withHeaps(50, 1).mill());
        Checks.due("a second one behind the first", 1 * 3 + (1 + 3) * 1, () -> withHeaps(3, 1, 1, 3).mill());
        Checks.due("six of one ton and worth 1", 1 + 2 + 3 + 4 + 5 + 6,
            () -> withHeaps(1, 1, 1, 1, 1, 1, 1, 1, 1, 1, 1, 1).mill());
    }

    private static void leastWaiting() {
        order("the lightest first", "543210", 6, 1, 5, 1, 4, 1, 3, 1, 2, 1, 1, 1);
        order("the dearest first", "543210", 1, 1, 1, 2, 1, 3, 1, 4, 1, 5, 1, 6);
        order("49 by 50 ahead of 50 by 50", "10", 50, 50, 49, 50);
        order("50 by 50 ahead of 50 by 49", "10", 50, 49, 50, 50);
        order("49 by 49 is as good as 50 by 50", "01", 50, 50, 49, 49);
        order("48 by 49 ahead of 49 by 50", "10", 49, 50, 48, 49);
        order("the least and the greatest", "120", 50, 1, 1, 50, 1, 1);
    }

    private static void smallestOfThoseAsGood() {
        order("two as good", "01", 2, 4, 1, 2);
        order("two as good, the other way", "01", 1, 2, 2, 4);
        order("six as good", "012345", 1, 1, 2, 2, 3, 3, 4, 4, 5, 5, 6, 6);
        order("a better one behind them", "201", 2, 4, 1, 2, 1, 3);
        order("a worse one between them", "021", 2, 4, 9, 2, 1, 2);
        order("pairs", "135024", 1, 1, 1, 2, 2, 2, 2, 4, 3, 3, 3, 6);
    }

    private static void numbersOfHeaps() {
        Steplode field = new Steplode();
        Checks.due("the first", 0, () -> field.heap(1, 1));
        Checks.due("one is refused", Checks.ARGUMENT, () -> field.heap(51, 1));
        Checks.due("it took no number", 1, () -> field.heap(1, 50));
        Checks.due("nor does the order matter", 2, () -> field.heap(50, 1));
    }

    private static void wrongHeaps() {
        int[] wrong = {0, -1, 51, Integer.MIN_VALUE, Integer.MAX_VALUE};
        for (int number : wrong) {
            Checks.refused(number + " tons", Checks.ARGUMENT, Fields::busy, f -> f.heap(number, 1));
            Checks.refused("worth " + number, Checks.ARGUMENT, Fields::busy, f -> f.heap(1, number));
            Checks.refused("both " + number, Checks.ARGUMENT, Fields::busy, f -> f.heap(number, number));
            Checks.refused("tons, ahead of a seventh", Checks.ARGUMENT, BoundsOfMill::six, f -> f.heap(number, 1));
            Checks.refused("worth, ahead of a seventh", Checks.ARGUMENT, BoundsOfMill::six, f -> f.heap(1, number));
        }
        for (int number = 1; number <= 50; number++) {
            int told = number;
            Checks.due(told + " tons", told, () -> withHeaps(told, 1).field(10));
            Checks.due("worth " + told, told, () -> withHeaps(1, told).field(10));
        }
    }

    private static void aSeventhHeap() {
        Checks.refused("a seventh", Checks.STATE, BoundsOfMill::six, f -> f.heap(1, 50));
        Checks.due("a sixth", 5, () -> withHeaps(1, 1, 1, 1, 1, 1, 1, 1, 1, 1).heap(1, 1));
        Steplode field = six();
        field.mill();
        Checks.due("behind the mill", 0, () -> field.heap(1, 1));
    }

    private static void goneBehindTheMill() {
        Steplode field = six();
        field.mill();
        Checks.due("heaps", 0, () -> field.field(9));
        Checks.due("waiting", 0, () -> field.field(10));
        Checks.due("the first in order", Checks.INDEX, () -> field.heapAt(0));
        for (int heap = 0; heap < 6; heap++) {
            int number = heap;
            Checks.due("number " + heap, number, () -> field.heap(50, 50));
        }
        Checks.due("a seventh again", Checks.STATE, () -> field.heap(1, 1));
        Checks.due("of those that came behind it", 52500, () -> field.mill());
        Checks.due("none are crushed twice", 0, () -> field.mill());
    }

    private static void waitingFewestAndMost() {
        Checks.due("without heaps", 0, () -> new Steplode().mill());
        Checks.due("the least", 1, () -> withHeaps(1, 1).mill());
        Checks.due("the most of one", 2500, () -> withHeaps(50, 50).mill());
        Checks.due("the most of six", 52500,
            () -> withHeaps(50, 50, 50, 50, 50, 50, 50, 50, 50, 50, 50, 50).mill());
        Checks.due("1 to 6 tons", 6 * 1 + 5 * 2 + 4 * 3 + 3 * 4 + 2 * 5 + 1 * 6, () -> six().mill());
    }

    private static void heapsNow() {
        Checks.due("no heaps", 0, () -> new Steplode().field(9));
        Checks.due("waiting without heaps", 0, () -> new Steplode().field(10));
        Checks.due("six heaps", 6, () -> six().field(9));
        Checks.due("their waiting", 56, () -> six().field(10));
        Steplode field = six();
        field.field(10);
        Checks.due("they are there still", 6, () -> field.field(9));
        Checks.due("nothing was crushed", 0, () -> field.field(11));
    }

    private static void crushedEver() {
        Steplode field = six();
        field.mill();
        Checks.due("once", 56, () -> field.field(11));
        field.mill();
        Checks.due("without heaps it stays", 56, () -> field.field(11));
        field.heap(50, 50);
        Checks.due("what waits is not crushed yet", 56, () -> field.field(11));
        field.mill();
        Checks.due("twice", 2556, () -> field.field(11));
    }

    private static void firstAndLastInOrder() {
        Checks.due("the first of six", 5, () -> six().heapAt(0));
        Checks.due("the last of six", 0, () -> six().heapAt(5));
        Checks.due("one alone", 0, () -> withHeaps(50, 50).heapAt(0));
        Steplode field = six();
        field.heapAt(0);
        Checks.due("nothing is crushed by that", 6, () -> field.field(9));
    }

    private static void notSoManyHeaps() {
        int[] wrong = {-1, 2, 5, 6, Integer.MIN_VALUE, Integer.MAX_VALUE};
        for (int nth : wrong) {
            Checks.refused("nth " + nth + " of two", Checks.INDEX, Fields::busy, f -> f.heapAt(nth));
        }
        Checks.refused("nth 6 of six", Checks.INDEX, BoundsOfMill::six, f -> f.heapAt(6));
        Checks.refused("nth 0 of none", Checks.INDEX, Steplode::new, f -> f.heapAt(0));
        Checks.due("nth 1 of two", 0, () -> Fields.busy().heapAt(1));
    }
}
