/** All that an object answers without being changed, as one text. */
final class Picture {
    private Picture() {
    }

    static String of(Steplode field) {
        StringBuilder all = new StringBuilder();
        for (int what = 0; what <= 12; what++) {
            all.append(field.field(what)).append(' ');
        }
        for (int row = 0; row < 6; row++) {
            all.append(field.row(row)).append(' ');
        }
        for (int place = 0; place < 36; place++) {
            for (int what = 0; what <= 6; what++) {
                all.append(field.ofPlace(place, what)).append(' ');
            }
            all.append(field.worst(place)).append(' ');
        }
        for (int claim = 0; claim < field.field(5); claim++) {
            for (int what = 0; what <= 7; what++) {
                all.append(field.ofClaim(claim, what)).append(' ');
            }
        }
        for (int nth = 0; nth < field.field(9); nth++) {
            all.append(field.heapAt(nth)).append(' ');
        }
        all.append(field.way(0, 0, 35)).append(' ').append(field.bestSample(true));
        return all.append(' ').append(field.isSound()).append(' ').append(field.digest()).toString();
    }
}
