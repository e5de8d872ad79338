import java.math.BigInteger;

/** Objects that several tests begin with, the checksum as the document tells it, and all that an object tells. */
final class Fields {
    /** The longest stream that can be: a longer one would come beside itself, and water would go across. */
    static final int[] LONGEST = {0, 1, 2, 3, 4, 5, 11, 17, 16, 22, 21, 20, 14, 13, 12, 18, 24, 25, 31, 32, 33, 34,
        35, 29};

    private Fields() {
    }

    static Steplode level(int height) {
        Steplode field = new Steplode();
        for (int place = 0; place < 36; place++) {
            field.height(place, height);
        }
        return field;
    }

    /** A ring of eight level places round the place 13, between walls. */
    static Steplode ring() {
        Steplode field = level(99);
        int[] ring = {6, 7, 8, 12, 14, 18, 19, 20};
        for (int place : ring) {
            field.height(place, 7);
        }
        return field;
    }

    /** A stream of 21 places between walls: right, then left, then right again. */
    static Steplode longStream() {
        int[] stream = {0, 1, 2, 3, 4, 5, 11, 17, 16, 15, 14, 13, 12, 18, 24, 25, 26, 27, 28, 29, 35};
        return stream(stream);
    }

    static Steplode longestStream() {
        return stream(LONGEST);
    }

    private static Steplode stream(int[] stream) {
        Steplode field = level(99);
        for (int nth = 0; nth < stream.length; nth++) {
            field.height(stream[nth], 60 - nth);
        }
        return field;
    }

    /** Something of everything: claims that lapsed and that did not, samples, digging, rules, heaps crushed and not. */
    static Steplode busy() {
        Steplode field = new Steplode();
        field.height(20, 50);
        field.lode(14, 120);
        field.stake(0, 0, 1);
        field.pass(20);
        field.stake(1, 13, 14);
        field.stake(0, 34, 35);
        field.pass(12);
        field.rules(12, 25);
        field.heap(2, 2);
        field.mill();
        field.heap(3, 4);
        field.heap(1, 5);
        field.dig(0);
        field.sample(15);
        field.sample(0);
        return field;
    }

    /** By the answers of the object itself, without any bound: only the end is brought into 64 bits. */
    static long checksum(Steplode field) {
        return checksumUnbounded(field).longValue();
    }

    static BigInteger checksumUnbounded(Steplode field) {
        BigInteger d = BigInteger.valueOf(6473);
        for (int what = 0; what <= 12; what++) {
            d = with(d, field.field(what));
        }
        for (int place = 0; place <= 35; place++) {
            for (int what = 0; what <= 6; what++) {
                d = with(d, field.ofPlace(place, what));
            }
        }
        for (int claim = 0; claim < field.field(5); claim++) {
            for (int what = 0; what <= 7; what++) {
                d = with(d, field.ofClaim(claim, what));
            }
        }
        d = with(d, field.bestSample(true));
        d = with(d, field.bestSample(false));
        d = with(d, field.ditch(0, 0, 35));
        for (int nth = 0; nth < field.field(9); nth++) {
            d = with(d, field.heapAt(nth));
        }
        return with(d, field.isSound() ? 1 : 0);
    }

    private static BigInteger with(BigInteger d, int number) {
        return d.multiply(BigInteger.valueOf(31)).add(BigInteger.valueOf(number));
    }

    /** All of an object's state shows here, the hidden lode, too. The object is spent by it: some 120 calls. */
    static String allThatIsTold(Steplode field) {
        StringBuilder told = new StringBuilder();
        add(told, () -> field.digest());
        for (int number = 0; number < 4; number++) {
            int prospector = number;
            add(told, () -> field.way(prospector, 0, 35));
            add(told, () -> field.ditch(prospector, 0, 35));
        }
        for (int number = 0; number < 36; number++) {
            int place = number;
            add(told, () -> field.sample(place));
        }
        add(told, () -> field.digest());
        add(told, () -> field.mill());
        add(told, () -> field.heap(1, 1));
        add(told, () -> field.rules(9, 19));
        for (int number = 0; number < 8; number++) {
            int claim = number;
            add(told, () -> field.work(claim));
        }
        add(told, () -> field.pass(1));
        for (int number = 0; number < 36; number += 7) {
            int place = number;
            add(told, () -> field.stake(place % 4, place, place));
        }
        add(told, () -> field.dig(0));
        add(told, () -> field.lode(0, 1));
        for (int number = 0; number < 36; number++) {
            int place = number;
            add(told, () -> field.height(place, 0));
        }
        add(told, () -> field.digest());
        return told.toString();
    }

    private static void add(StringBuilder told, Checks.Call call) {
        told.append(Checks.outcome(call)).append(' ');
    }
}
