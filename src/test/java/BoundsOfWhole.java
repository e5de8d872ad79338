import java.math.BigInteger;

/** Sentences with a boundary on the whole: what holds for all calls, asking, and the checksum: promise 23. */
final class BoundsOfWhole {
    private BoundsOfWhole() {
    }

    static void all() {
        ofTheDescription();
        ofAsking();
        ofDigest();
    }

    private static void ofTheDescription() {
        int part = Sentences.DESCRIPTION;
        Sentences.tell(part, "NONE is -1.", BoundsOfWhole::none);
        Sentences.tell(part, "X by X is by rising numbers", BoundsOfWhole::byRisingNumbers);
        Sentences.tell(part, "A method that throws an exception changes nothing.", BoundsOfWhole::refusedOneByOne);
        Sentences.tell(part, "If several exceptions apply, the one that is named first is thrown.",
            BoundsOfWhole::namedFirst);
    }

    private static void ofAsking() {
        Sentences.tell(12, "---- what is asked", BoundsOfWhole::askingChangesNothing);
        Sentences.tell(17, "---- what would be (nothing is changed)", BoundsOfWhole::whatWouldBeChangesNothing);
    }

    private static void ofDigest() {
        Sentences.tell(23, "A number d starts with 6473", BoundsOfWhole::checksumOfANewObject);
        Sentences.tell(23, "d becomes d * 31 + v, which wraps around as a 64-bit integer",
            BoundsOfWhole::checksumWrapsAround);
        Sentences.tell(23, "field() of 0 to 12", BoundsOfWhole::checksumOfFieldFacts);
        Sentences.tell(23, "PLACE by PLACE ofPlace() of 0 to 6", BoundsOfWhole::checksumOfPlaceFacts);
        Sentences.tell(23, "CLAIM by CLAIM ofClaim() of 0 to 7", BoundsOfWhole::checksumOfClaims);
        Sentences.tell(23, "bestSample() as a PLACE, then otherwise", BoundsOfWhole::checksumWithoutABestSample);
        Sentences.tell(23, "ditch() of the PROSPECTOR 0 from the PLACE 0 to the PLACE 35",
            BoundsOfWhole::checksumOfTheDitch);
        Sentences.tell(23, "heapAt() of each", BoundsOfWhole::checksumOfHeaps);
    }

    private static void none() {
        Steplode field = new Steplode();
        Checks.due("flows nowhere", -1, () -> field.ofPlace(35, 1));
        Checks.due("no sample", -1, () -> field.ofPlace(35, 2));
        Checks.due("in no claim", -1, () -> field.ofPlace(35, 4));
        Checks.due("no steps", -1, () -> field.steps(35, 0));
        Checks.due("not found", -1, () -> field.field(3));
        Checks.due("no ditch", -1, () -> field.ditch(0, 35, 0));
        for (int place = 0; place < 36; place++) {
            field.sample(place);
        }
        Checks.due("no best sample", -1, () -> field.bestSample(true));
        Checks.due("nor places behind it", -1, () -> field.bestSample(false));
    }

    /** The same claims and places the other way round give another checksum: so the order is told by it. */
    private static void byRisingNumbers() {
        Steplode field = new Steplode();
        field.stake(0, 0, 0);
        field.stake(1, 35, 35);
        Steplode turned = new Steplode();
        turned.stake(1, 35, 35);
        turned.stake(0, 0, 0);
        Checks.due("the claim 0, then 1", Fields.checksum(field), () -> field.digest());
        Checks.due("the other way round", Fields.checksum(turned), () -> turned.digest());
        Checks.same("these are two", "true", "" + (field.digest() != turned.digest()));
        Steplode low = Fields.level(5);
        low.lode(0, 7);
        low.sample(0);
        Steplode high = Fields.level(5);
        high.lode(35, 7);
        high.sample(35);
        Checks.due("the place 0 ahead of all", Fields.checksum(low), () -> low.digest());
        Checks.due("the place 35 behind all", Fields.checksum(high), () -> high.digest());
        Checks.same("these are two, as well", "true", "" + (low.digest() != high.digest()));
    }

    private static void changesNothing(Checks.Asking asking) {
        Steplode field = Fields.busy();
        Checks.due("all are answered", "0", () -> asking.answerOf(field));
        Checks.same("nothing is changed", Fields.allThatIsTold(Fields.busy()), Fields.allThatIsTold(field));
    }

    private static void askingChangesNothing() {
        changesNothing(f -> {
            for (int place = 0; place < 36; place += 5) {
                for (int what = 0; what <= 6; what++) {
                    f.ofPlace(place, what);
                }
                f.steps(place, 35);
            }
            for (int what = 0; what <= 12; what++) {
                f.field(what);
            }
            for (int what = 0; what <= 7; what++) {
                f.ofClaim(what % 3, what);
            }
            f.row(0);
            return f.row(5).length() - 6;
        });
    }

    private static void whatWouldBeChangesNothing() {
        changesNothing(f -> {
            f.bestSample(true);
            f.bestSample(false);
            for (int place = 0; place < 36; place++) {
                f.worst(place);
                f.ditch(place % 4, 0, place);
                f.way(place % 4, place, 35);
            }
            f.heapAt(0);
            f.heapAt(1);
            f.digest();
            return f.isSound() ? 0 : 1;
        });
    }

    private static void checksumOfANewObject() {
        Steplode field = new Steplode();
        long want = Fields.checksum(new Steplode());
        Checks.due("by the answers of one as new", want, () -> field.digest());
        Checks.due("nothing is changed", want, () -> field.digest());
    }

    private static void checksumWrapsAround() {
        Steplode[] fields = {new Steplode(), Fields.busy(), BoundsOfMill.six(), Fields.longestStream()};
        for (Steplode field : fields) {
            BigInteger unbounded = Fields.checksumUnbounded(field);
            Checks.same("it is above 64 bits", "true", "" + (unbounded.bitLength() > 64));
            Checks.due("its last 64 bits", unbounded.longValue(), () -> field.digest());
        }
    }

    /** By how much the checksum rises, if a number rises by 1 behind which so many others follow. */
    private static long rise(int following) {
        long rise = 1;
        for (int number = 0; number < following; number++) {
            rise *= 31;
        }
        return rise;
    }

    private static void checksumOfFieldFacts() {
        // Behind the last fact of the field come 36 places of 7 facts, then 4 numbers: no claims, no heaps.
        int behind = 36 * 7 + 4;
        long first = new Steplode().digest();
        Steplode field = new Steplode();
        field.pass(1);
        Checks.due("the fact 0 is the first", first + rise(behind + 12), () -> field.digest());
        field.rules(11, 21);
        Checks.due("the facts 7 and 8", first + rise(behind + 12) + rise(behind + 5) + rise(behind + 4),
            () -> field.digest());
        Steplode dug = new Steplode();
        dug.dig(35);
        Checks.due("the fact 6", first + 10 * rise(behind + 6), () -> dug.digest());
        Steplode crushed = new Steplode();
        crushed.heap(1, 1);
        crushed.mill();
        Checks.due("the fact 11", first + rise(behind + 1), () -> crushed.digest());
        Steplode sinks = Fields.level(5);
        Checks.due("36 sinks, the last fact", Fields.checksum(sinks), () -> sinks.digest());
    }

    private static void checksumOfPlaceFacts() {
        // Level ground that is higher by 1 flows nowhere, too: it differs in heights alone.
        int behind = 4;
        long level = Fields.level(5).digest();
        long want = level;
        for (int place = 0; place < 36; place++) {
            want += rise(behind + 7 * (35 - place) + 6);
        }
        Checks.due("the fact 0 of each", want, () -> Fields.level(6).digest());
        Steplode first = new Steplode();
        first.stake(0, 0, 0);
        first.pass(30);
        Steplode last = new Steplode();
        last.stake(0, 35, 35);
        last.pass(30);
        Checks.due("in no claim that stands, the place 0", Fields.checksum(first), () -> first.digest());
        Checks.due("in no claim that stands, the place 35", Fields.checksum(last), () -> last.digest());
        Steplode sampled = new Steplode();
        for (int place = 0; place < 36; place++) {
            sampled.sample(place);
            Checks.due("with samples", Fields.checksum(sampled), () -> sampled.digest());
        }
    }

    private static void checksumOfClaims() {
        Steplode eight = new Steplode();
        for (int claim = 0; claim < 8; claim++) {
            eight.stake(claim % 4, claim, claim);
            Checks.due("with claims", Fields.checksum(eight), () -> eight.digest());
        }
        Steplode lapsed = new Steplode();
        lapsed.stake(3, 35, 35);
        lapsed.pass(30);
        Checks.due("with one that has lapsed", Fields.checksum(lapsed), () -> lapsed.digest());
    }

    private static void checksumWithoutABestSample() {
        Steplode field = new Steplode();
        for (int place = 0; place < 36; place++) {
            field.sample(place);
        }
        Checks.due("all were sampled: NONE twice", Fields.checksum(field), () -> field.digest());
        Steplode found = new Steplode();
        found.sample(15);
        Checks.due("the place 14, then 1", Fields.checksum(found), () -> found.digest());
    }

    private static void checksumOfTheDitch() {
        Steplode none = new Steplode();
        none.height(35, 99);
        Checks.due("without one", Fields.checksum(none), () -> none.digest());
        Steplode dear = new Steplode();
        dear.stake(1, 35, 35);
        Checks.due("in another's claim", Fields.checksum(dear), () -> dear.digest());
        Steplode own = new Steplode();
        own.stake(0, 35, 35);
        Checks.due("in his own", Fields.checksum(own), () -> own.digest());
    }

    private static void checksumOfHeaps() {
        Steplode field = new Steplode();
        for (int heap = 0; heap < 6; heap++) {
            field.heap(6 - heap, 1);
            Checks.due("with heaps", Fields.checksum(field), () -> field.digest());
        }
        field.mill();
        Checks.due("behind the mill", Fields.checksum(field), () -> field.digest());
    }

    /** Each method that may throw, refused on one object: behind all of that it is as one of which nothing was asked. */
    private static void refusedOneByOne() {
        Checks.refused("all of them", "18", Fields::busy, f -> {
            Checks.Call[] calls = {
                () -> f.height(0, 100), () -> f.lode(0, 201), () -> f.sample(15), () -> f.dig(36),
                () -> f.stake(3, 14, 14), () -> f.work(0), () -> f.pass(101), () -> f.rules(30, 100),
                () -> f.heap(50, 51), () -> f.ofPlace(0, 7), () -> f.steps(0, 36), () -> f.ofClaim(0, 8),
                () -> f.field(13), () -> f.row(6), () -> f.worst(-1), () -> f.ditch(4, 0, 35), () -> f.way(0, 36, 0),
                () -> f.heapAt(2)};
            int refused = 0;
            for (Checks.Call call : calls) {
                refused += Checks.outcome(call).startsWith("throws ") ? 1 : 0;
            }
            return refused;
        });
    }

    private static void namedFirst() {
        Checks.due("height: a place, then a height", Checks.INDEX, () -> new Steplode().height(36, 100));
        Checks.due("lode: a place, then a grade", Checks.INDEX, () -> new Steplode().lode(36, 201));
        Checks.due("stake: a place, then a rectangle", Checks.INDEX, () -> new Steplode().stake(0, 36, 0));
        Checks.due("stake: a prospector, then what stands", Checks.INDEX, () -> Fields.busy().stake(4, 14, 14));
        Checks.due("stake: a rectangle, then what stands", Checks.ARGUMENT, () -> Fields.busy().stake(3, 14, 13));
        Checks.due("pass: days, then the last day", Checks.ARGUMENT, () -> {
            Steplode field = new Steplode();
            for (int times = 0; times < 20; times++) {
                field.pass(100);
            }
            return field.pass(101);
        });
        Checks.due("heap: tons, then six", Checks.ARGUMENT, () -> BoundsOfMill.six().heap(51, 1));
        Checks.due("ofPlace: a place, then what", Checks.INDEX, () -> new Steplode().ofPlace(36, 7));
        Checks.due("ofClaim: a claim, then what", Checks.INDEX, () -> new Steplode().ofClaim(0, 8));
    }
}
