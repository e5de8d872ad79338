/** Objects that several tests begin with, and the checksum as the document tells it. */
final class Fields {
    private Fields() {
    }

    static Steplode level(int height) {
        Steplode field = new Steplode();
        for (int place = 0; place < 36; place++) {
            field.height(place, height);
        }
        return field;
    }

    /** A ring of eight level places round the place 13, between walls. */
    static Steplode ring() {
        Steplode field = level(99);
        int[] ring = {6, 7, 8, 12, 14, 18, 19, 20};
        for (int place : ring) {
            field.height(place, 7);
        }
        return field;
    }

    /** A stream of 21 places between walls: right, then left, then right again. */
    static Steplode longStream() {
        Steplode field = level(99);
        int[] stream = {0, 1, 2, 3, 4, 5, 11, 17, 16, 15, 14, 13, 12, 18, 24, 25, 26, 27, 28, 29, 35};
        for (int nth = 0; nth < stream.length; nth++) {
            field.height(stream[nth], 60 - nth);
        }
        return field;
    }

    /** By the answers of the object itself. */
    static long checksum(Steplode field) {
        long d = 6473;
        for (int what = 0; what <= 12; what++) {
            d = d * 31 + field.field(what);
        }
        for (int place = 0; place <= 35; place++) {
            for (int what = 0; what <= 6; what++) {
                d = d * 31 + field.ofPlace(place, what);
            }
        }
        for (int claim = 0; claim < field.field(5); claim++) {
            for (int what = 0; what <= 7; what++) {
                d = d * 31 + field.ofClaim(claim, what);
            }
        }
        d = d * 31 + field.bestSample(true);
        d = d * 31 + field.bestSample(false);
        d = d * 31 + field.ditch(0, 0, 35);
        for (int nth = 0; nth < field.field(9); nth++) {
            d = d * 31 + field.heapAt(nth);
        }
        return d * 31 + (field.isSound() ? 1 : 0);
    }
}
