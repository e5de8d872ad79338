import java.math.BigInteger;

/** Sentences with a boundary on heaps, the mill and the checksum: promises 10, 11, 21 and 23, and of 15 the rest. */
final class BoundsOfMill {
    private BoundsOfMill() {
    }

    static void all() {
        ofTheDescription();
        ofHeap();
        ofMill();
        ofField();
        ofHeapAt();
        ofAsking();
        ofDigest();
    }

    private static void ofTheDescription() {
        int part = Sentences.DESCRIPTION;
        Sentences.tell(part, "HEAPS: at most 6, numbered from 0, each of a weight (1 to 50 tons) and a WORTH (1 to 50).",
            BoundsOfMill::sixHeaps);
        Sentences.tell(part, "of each HEAP its WORTH times the hour at which it is done, together",
            BoundsOfMill::waitingTillItIsDone);
        Sentences.tell(part, "BEST ORDER: that with the least WAITING", BoundsOfMill::leastWaiting);
        Sentences.tell(part, "of several that with the smallest first HEAP, then the second one, and so on",
            BoundsOfMill::smallestOfThoseAsGood);
        Sentences.tell(part, "A method that throws an exception changes nothing.", BoundsOfMill::refusedOneByOne);
        Sentences.tell(part, "If several exceptions apply, the one that is named first is thrown.",
            BoundsOfMill::namedFirst);
    }

    private static void ofHeap() {
        Sentences.tell(10, "Returns its number.", BoundsOfMill::numbersOfHeaps);
        Sentences.tell(10, "Throws `IllegalArgumentException` if tons or worth is not 1 to 50",
            BoundsOfMill::wrongHeaps);
        Sentences.tell(10, "Throws `IllegalStateException` if there are 6", BoundsOfMill::aSeventhHeap);
    }

    private static void ofMill() {
        Sentences.tell(11, "they are gone, and the next one is 0 again", BoundsOfMill::goneBehindTheMill);
        Sentences.tell(11, "Returns WAITING of that (0 without HEAPS).", BoundsOfMill::waitingFewestAndMost);
    }

    private static void ofField() {
        Sentences.tell(15, "9 HEAPS, 10 WAITING of the BEST ORDER (0 without HEAPS)", BoundsOfMill::heapsNow);
        Sentences.tell(15, "11 WAITING of all that the MILL crushed ever", BoundsOfMill::crushedEver);
        Sentences.tell(15, "7 FALL, 8 PRICE", BoundsOfMill::rulesNow);
        Sentences.tell(15, "0 TODAY", BoundsOfMill::today);
    }

    private static void ofHeapAt() {
        Sentences.tell(21, "Returns which HEAP the MILL would crush as the nth one, from 0 on, by the BEST ORDER.",
            BoundsOfMill::firstAndLastInOrder);
        Sentences.tell(21, "Throws `IndexOutOfBoundsException` if there are not so many HEAPS, or nth is below 0",
            BoundsOfMill::notSoManyHeaps);
    }

    private static void ofAsking() {
        Sentences.tell(12, "---- what is asked", BoundsOfMill::askingChangesNothing);
        Sentences.tell(17, "---- what would be (nothing is changed)", BoundsOfMill::whatWouldBeChangesNothing);
    }

    private static void ofDigest() {
        Sentences.tell(23, "A number d starts with 6473", BoundsOfMill::checksumOfANewObject);
        Sentences.tell(23, "d becomes d * 31 + v, which wraps around as a 64-bit integer",
            BoundsOfMill::checksumWrapsAround);
        Sentences.tell(23, "CLAIM by CLAIM ofClaim() of 0 to 7", BoundsOfMill::checksumOfClaims);
        Sentences.tell(23, "bestSample() as a PLACE, then otherwise", BoundsOfMill::checksumWithoutABestSample);
        Sentences.tell(23, "ditch() of the PROSPECTOR 0 from the PLACE 0 to the PLACE 35",
            BoundsOfMill::checksumOfTheDitch);
        Sentences.tell(23, "heapAt() of each", BoundsOfMill::checksumOfHeaps);
    }

    private static Steplode withHeaps(int... tonsAndWorths) {
        Steplode field = new Steplode();
        for (int at = 0; at < tonsAndWorths.length; at += 2) {
            field.heap(tonsAndWorths[at], tonsAndWorths[at + 1]);
        }
        return field;
    }

    private static Steplode six() {
        return withHeaps(6, 1, 5, 1, 4, 1, 3, 1, 2, 1, 1, 1);
    }

    private static void order(String what, String want, int... tonsAndWorths) {
        Steplode field = withHeaps(tonsAndWorths);
        String got = "";
        for (int nth = 0; nth < tonsAndWorths.length / 2; nth++) {
            got += field.heapAt(nth);
        }
        Checks.same(what, want, got);
    }

    private static void sixHeaps() {
        Steplode field = new Steplode();
        for (int heap = 0; heap < 6; heap++) {
            int number = heap;
            Checks.due("heap " + heap, number, () -> field.heap(50, 1 + 49 * (number % 2)));
        }
        Checks.due("all six", 6, () -> field.field(9));
        Checks.refused("a seventh", Checks.STATE, BoundsOfMill::six, f -> f.heap(1, 1));
        Checks.refused("0 tons", Checks.ARGUMENT, Fields::busy, f -> f.heap(0, 50));
        Checks.refused("51 tons", Checks.ARGUMENT, Fields::busy, f -> f.heap(51, 50));
        Checks.refused("worth 0", Checks.ARGUMENT, Fields::busy, f -> f.heap(50, 0));
        Checks.refused("worth 51", Checks.ARGUMENT, Fields::busy, f -> f.heap(50, 51));
    }

    private static void waitingTillItIsDone() {
        Checks.due("a heap of one ton is done in the hour 1", 7, () -> withHeaps(1, 7).mill());
        Checks.due("a heap of 50 tons in the hour 50", 50, () -> withHeaps(50, 1).mill());
        Checks.due("a second one behind the first", 1 * 3 + (1 + 3) * 1, () -> withHeaps(3, 1, 1, 3).mill());
        Checks.due("six of one ton and worth 1", 1 + 2 + 3 + 4 + 5 + 6,
            () -> withHeaps(1, 1, 1, 1, 1, 1, 1, 1, 1, 1, 1, 1).mill());
    }

    private static void leastWaiting() {
        order("the lightest first", "543210", 6, 1, 5, 1, 4, 1, 3, 1, 2, 1, 1, 1);
        order("the dearest first", "543210", 1, 1, 1, 2, 1, 3, 1, 4, 1, 5, 1, 6);
        order("49 by 50 ahead of 50 by 50", "10", 50, 50, 49, 50);
        order("50 by 50 ahead of 50 by 49", "10", 50, 49, 50, 50);
        order("49 by 49 is as good as 50 by 50", "01", 50, 50, 49, 49);
        order("48 by 49 ahead of 49 by 50", "10", 49, 50, 48, 49);
        order("the least and the greatest", "120", 50, 1, 1, 50, 1, 1);
    }

    private static void smallestOfThoseAsGood() {
        order("two as good", "01", 2, 4, 1, 2);
        order("two as good, the other way", "01", 1, 2, 2, 4);
        order("six as good", "012345", 1, 1, 2, 2, 3, 3, 4, 4, 5, 5, 6, 6);
        order("a better one behind them", "201", 2, 4, 1, 2, 1, 3);
        order("a worse one between them", "021", 2, 4, 9, 2, 1, 2);
        order("pairs", "135024", 1, 1, 1, 2, 2, 2, 2, 4, 3, 3, 3, 6);
    }

    private static void numbersOfHeaps() {
        Steplode field = new Steplode();
        Checks.due("the first", 0, () -> field.heap(1, 1));
        Checks.due("one is refused", Checks.ARGUMENT, () -> field.heap(51, 1));
        Checks.due("it took no number", 1, () -> field.heap(1, 50));
        Checks.due("nor does the order matter", 2, () -> field.heap(50, 1));
    }

    private static void wrongHeaps() {
        int[] wrong = {0, -1, 51, Integer.MIN_VALUE, Integer.MAX_VALUE};
        for (int number : wrong) {
            Checks.refused(number + " tons", Checks.ARGUMENT, Fields::busy, f -> f.heap(number, 1));
            Checks.refused("worth " + number, Checks.ARGUMENT, Fields::busy, f -> f.heap(1, number));
            Checks.refused("both " + number, Checks.ARGUMENT, Fields::busy, f -> f.heap(number, number));
            Checks.refused("tons, ahead of a seventh", Checks.ARGUMENT, BoundsOfMill::six, f -> f.heap(number, 1));
            Checks.refused("worth, ahead of a seventh", Checks.ARGUMENT, BoundsOfMill::six, f -> f.heap(1, number));
        }
        for (int number = 1; number <= 50; number++) {
            int told = number;
            Checks.due(told + " tons", told, () -> withHeaps(told, 1).field(10));
            Checks.due("worth " + told, told, () -> withHeaps(1, told).field(10));
        }
    }

    private static void aSeventhHeap() {
        Checks.refused("a seventh", Checks.STATE, BoundsOfMill::six, f -> f.heap(1, 50));
        Checks.due("a sixth", 5, () -> withHeaps(1, 1, 1, 1, 1, 1, 1, 1, 1, 1).heap(1, 1));
        Steplode field = six();
        field.mill();
        Checks.due("behind the mill", 0, () -> field.heap(1, 1));
    }

    private static void goneBehindTheMill() {
        Steplode field = six();
        field.mill();
        Checks.due("heaps", 0, () -> field.field(9));
        Checks.due("waiting", 0, () -> field.field(10));
        Checks.due("the first in order", Checks.INDEX, () -> field.heapAt(0));
        for (int heap = 0; heap < 6; heap++) {
            int number = heap;
            Checks.due("number " + heap, number, () -> field.heap(50, 50));
        }
        Checks.due("a seventh again", Checks.STATE, () -> field.heap(1, 1));
        Checks.due("of those that came behind it", 52500, () -> field.mill());
        Checks.due("none are crushed twice", 0, () -> field.mill());
    }

    private static void waitingFewestAndMost() {
        Checks.due("without heaps", 0, () -> new Steplode().mill());
        Checks.due("the least", 1, () -> withHeaps(1, 1).mill());
        Checks.due("the most of one", 2500, () -> withHeaps(50, 50).mill());
        Checks.due("the most of six", 52500,
            () -> withHeaps(50, 50, 50, 50, 50, 50, 50, 50, 50, 50, 50, 50).mill());
        Checks.due("1 to 6 tons", 6 * 1 + 5 * 2 + 4 * 3 + 3 * 4 + 2 * 5 + 1 * 6, () -> six().mill());
    }

    private static void heapsNow() {
        Checks.due("no heaps", 0, () -> new Steplode().field(9));
        Checks.due("waiting without heaps", 0, () -> new Steplode().field(10));
        Checks.due("six heaps", 6, () -> six().field(9));
        Checks.due("their waiting", 56, () -> six().field(10));
        Steplode field = six();
        field.field(10);
        Checks.due("they are there still", 6, () -> field.field(9));
        Checks.due("nothing was crushed", 0, () -> field.field(11));
    }

    private static void crushedEver() {
        Steplode field = six();
        field.mill();
        Checks.due("once", 56, () -> field.field(11));
        field.mill();
        Checks.due("without heaps it stays", 56, () -> field.field(11));
        field.heap(50, 50);
        Checks.due("what waits is not crushed yet", 56, () -> field.field(11));
        field.mill();
        Checks.due("twice", 2556, () -> field.field(11));
    }

    private static void rulesNow() {
        Steplode field = new Steplode();
        Checks.due("fall at first", 10, () -> field.field(7));
        Checks.due("price at first", 20, () -> field.field(8));
        field.rules(30, 1);
        Checks.due("the greatest fall", 30, () -> field.field(7));
        Checks.due("the least price", 1, () -> field.field(8));
        field.rules(1, 99);
        Checks.due("the least fall", 1, () -> field.field(7));
        Checks.due("the greatest price", 99, () -> field.field(8));
    }

    private static void today() {
        Steplode field = new Steplode();
        Checks.due("at first", 0, () -> field.field(0));
        for (int times = 1; times <= 20; times++) {
            int want = 100 * times;
            field.pass(100);
            Checks.due("behind " + want + " days", want, () -> field.field(0));
        }
        Checks.due("no further", Checks.STATE, () -> field.pass(1));
        Checks.due("the last day", 2000, () -> field.field(0));
    }

    private static void firstAndLastInOrder() {
        Checks.due("the first of six", 5, () -> six().heapAt(0));
        Checks.due("the last of six", 0, () -> six().heapAt(5));
        Checks.due("one alone", 0, () -> withHeaps(50, 50).heapAt(0));
        Steplode field = six();
        field.heapAt(0);
        Checks.due("nothing is crushed by that", 6, () -> field.field(9));
    }

    private static void notSoManyHeaps() {
        int[] wrong = {-1, 2, 5, 6, Integer.MIN_VALUE, Integer.MAX_VALUE};
        for (int nth : wrong) {
            Checks.refused("nth " + nth + " of two", Checks.INDEX, Fields::busy, f -> f.heapAt(nth));
        }
        Checks.refused("nth 6 of six", Checks.INDEX, BoundsOfMill::six, f -> f.heapAt(6));
        Checks.refused("nth 0 of none", Checks.INDEX, Steplode::new, f -> f.heapAt(0));
        Checks.due("nth 1 of two", 0, () -> Fields.busy().heapAt(1));
    }

    private static void changesNothing(Checks.Asking asking) {
        Steplode field = Fields.busy();
        Checks.due("all are answered", "0", () -> asking.answerOf(field));
        Checks.same("nothing is changed", Fields.allThatIsTold(Fields.busy()), Fields.allThatIsTold(field));
    }

    private static void askingChangesNothing() {
        changesNothing(f -> {
            for (int place = 0; place < 36; place += 5) {
                for (int what = 0; what <= 6; what++) {
                    f.ofPlace(place, what);
                }
                f.steps(place, 35);
            }
            for (int what = 0; what <= 12; what++) {
                f.field(what);
            }
            for (int what = 0; what <= 7; what++) {
                f.ofClaim(what % 3, what);
            }
            f.row(0);
            return f.row(5).length() - 6;
        });
    }

    private static void whatWouldBeChangesNothing() {
        changesNothing(f -> {
            f.bestSample(true);
            f.bestSample(false);
            for (int place = 0; place < 36; place++) {
                f.worst(place);
                f.ditch(place % 4, 0, place);
                f.way(place % 4, place, 35);
            }
            f.heapAt(0);
            f.heapAt(1);
            f.digest();
            return f.isSound() ? 0 : 1;
        });
    }

    private static void checksumOfANewObject() {
        Steplode field = new Steplode();
        long want = Fields.checksum(new Steplode());
        Checks.due("by the answers of one as new", want, () -> field.digest());
        Checks.due("nothing is changed", want, () -> field.digest());
    }

    private static void checksumWrapsAround() {
        Steplode[] fields = {new Steplode(), Fields.busy(), six(), Fields.longestStream()};
        for (Steplode field : fields) {
            BigInteger unbounded = Fields.checksumUnbounded(field);
            Checks.same("it is above 64 bits", "true", "" + (unbounded.bitLength() > 64));
            Checks.due("its last 64 bits", unbounded.longValue(), () -> field.digest());
        }
    }

    private static void checksumOfClaims() {
        Steplode eight = new Steplode();
        for (int claim = 0; claim < 8; claim++) {
            eight.stake(claim % 4, claim, claim);
            Checks.due("with claims", Fields.checksum(eight), () -> eight.digest());
        }
        Steplode lapsed = new Steplode();
        lapsed.stake(3, 35, 35);
        lapsed.pass(30);
        Checks.due("with one that has lapsed", Fields.checksum(lapsed), () -> lapsed.digest());
    }

    private static void checksumWithoutABestSample() {
        Steplode field = new Steplode();
        for (int place = 0; place < 36; place++) {
            field.sample(place);
        }
        Checks.due("all were sampled: NONE twice", Fields.checksum(field), () -> field.digest());
        Steplode found = new Steplode();
        found.sample(15);
        Checks.due("the place 14, then 1", Fields.checksum(found), () -> found.digest());
    }

    private static void checksumOfTheDitch() {
        Steplode none = new Steplode();
        none.height(35, 99);
        Checks.due("without one", Fields.checksum(none), () -> none.digest());
        Steplode dear = new Steplode();
        dear.stake(1, 35, 35);
        Checks.due("in another's claim", Fields.checksum(dear), () -> dear.digest());
        Steplode own = new Steplode();
        own.stake(0, 35, 35);
        Checks.due("in his own", Fields.checksum(own), () -> own.digest());
    }

    private static void checksumOfHeaps() {
        Steplode field = new Steplode();
        for (int heap = 0; heap < 6; heap++) {
            field.heap(6 - heap, 1);
            Checks.due("with heaps", Fields.checksum(field), () -> field.digest());
        }
        field.mill();
        Checks.due("behind the mill", Fields.checksum(field), () -> field.digest());
    }

    /** Each method that may throw, refused on one object: behind all of that it is as one of which nothing was asked. */
    private static void refusedOneByOne() {
        Checks.refused("all of them", "16", Fields::busy, f -> {
            Checks.Call[] calls = {
                () -> f.height(0, 100), () -> f.lode(0, 201), () -> f.sample(15), () -> f.dig(36),
                () -> f.stake(3, 14, 14), () -> f.work(0), () -> f.pass(101), () -> f.rules(30, 100),
                () -> f.heap(50, 51), () -> f.ofPlace(0, 7), () -> f.steps(0, 36), () -> f.ofClaim(0, 8),
                () -> f.field(13), () -> f.row(6), () -> f.heapAt(2), () -> f.worst(-1)};
            int refused = 0;
            for (Checks.Call call : calls) {
                refused += Checks.outcome(call).startsWith("throws ") ? 1 : 0;
            }
            return refused;
        });
    }

    private static void namedFirst() {
        Checks.due("height: a place, then a height", Checks.INDEX, () -> new Steplode().height(36, 100));
        Checks.due("lode: a place, then a grade", Checks.INDEX, () -> new Steplode().lode(36, 201));
        Checks.due("stake: a place, then a rectangle", Checks.INDEX, () -> new Steplode().stake(0, 36, 0));
        Checks.due("stake: a prospector, then what stands", Checks.INDEX, () -> Fields.busy().stake(4, 14, 14));
        Checks.due("stake: a rectangle, then what stands", Checks.ARGUMENT, () -> Fields.busy().stake(3, 14, 13));
        Checks.due("pass: days, then the last day", Checks.ARGUMENT, () -> {
            Steplode field = new Steplode();
            for (int times = 0; times < 20; times++) {
                field.pass(100);
            }
            return field.pass(101);
        });
        Checks.due("heap: tons, then six", Checks.ARGUMENT, () -> six().heap(51, 1));
        Checks.due("ofPlace: a place, then what", Checks.INDEX, () -> new Steplode().ofPlace(36, 7));
        Checks.due("ofClaim: a claim, then what", Checks.INDEX, () -> new Steplode().ofClaim(0, 8));
    }
}
