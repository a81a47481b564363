/** What a reader answers, as strings that can be compared; some 150 calls each. */
final class Snapshot {
    private Snapshot() {
    }

    /** What told, member, the reading methods and the methods of orders answer; this changes nothing. */
    static String answers(PhraseReader x) {
        StringBuilder all = new StringBuilder();
        for (int what = 0; what <= 7; what++) {
            all.append(" told ").append(x.told(what));
        }
        for (int m = 0; m < 6; m++) {
            all.append("; member ").append(m);
            for (int what = 0; what <= 9; what++) {
                all.append(' ').append(x.member(m, what));
            }
            all.append(" values ").append(x.value(m, 0)).append(' ').append(x.value(m, 1));
        }
        all.append("; fault ").append(x.fault()).append(" readings ").append(x.readings());
        all.append(" next ").append(x.next()).append(" rank ").append(x.rank());
        for (int k = 0; k < 5; k++) {
            for (int what = 0; what <= 2; what++) {
                all.append(what == 0 ? "; " : " ").append(x.occurrence(k, what));
            }
        }
        all.append("; normal");
        for (int i = 0; i < 20; i++) {
            all.append(' ').append(x.normal(i));
        }
        all.append("; orders ").append(x.orders(-1)).append(' ').append(x.orders(3));
        for (int k = 0; k < 4; k++) {
            all.append(' ').append(x.order(2, k));
        }
        return all.toString();
    }

    /** The states that undo restores, the images, and the text by its length; this uses them up. */
    static String drained(PhraseReader x) {
        StringBuilder all = new StringBuilder();
        int left = x.told(5);
        while (left >= 0) {
            left = x.undo();
            all.append("undo ").append(left).append(": ");
            for (int m = 0; m < 6; m++) {
                all.append(x.member(m, 3)).append(' ').append(x.member(m, 8)).append(' ');
            }
            all.append(x.told(0)).append(' ').append(x.told(1)).append(' ').append(x.told(6)).append("; ");
        }
        for (int i = 0; i <= 1; i++) {
            all.append("back ").append(x.back(i)).append(": ").append(Check.declared(x)).append("; ");
        }
        return all.append("wipe ").append(x.wipe()).toString();
    }
}
