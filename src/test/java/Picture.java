import java.util.function.Supplier;
import java.util.function.ToIntFunction;

/** All that an object tells, as one text: two objects that stand alike have the same pictures. */
final class Picture {
    private Picture() {
    }

    /** What is told, but for the states in the history. */
    static String of(KiteWords kites) {
        StringBuilder told = new StringBuilder();
        for (int what = 0; what < 14; what++) {
            if (what != 12) {
                told.append(kites.count(what)).append(' ');
            }
        }
        addFliers(told.append("fliers "), kites);
        told.append("reads ").append(Due.read(kites)).append(" next ").append(kites.nextTrade());
        told.append(" spelled ").append(kites.spelledIn()).append(" plan ");
        for (int rank = 0; rank < kites.count(11); rank++) {
            for (int what = 0; what < 3; what++) {
                told.append(kites.turnOf(rank, what)).append(' ');
            }
        }
        told.append("log ");
        for (int back = 0; kites.tangle(back, 0) != Due.NONE; back++) {
            for (int what = 0; what < 4; what++) {
                told.append(kites.tangle(back, what)).append(' ');
            }
        }
        return told.toString();
    }

    private static void addFliers(StringBuilder told, KiteWords kites) {
        int fliers = kites.count(0);
        for (int place = 0; place < fliers; place++) {
            for (int what = 0; what < 8; what++) {
                told.append(kites.flier(place, what)).append(' ');
            }
            for (int what = 0; what < 3; what++) {
                told.append(kites.ifTraded(place, what)).append(' ');
            }
        }
    }

    /** Also what only later calls bring out: the history, the snapshot, the text, the numbers that are used up. */
    static String inDepth(Supplier<KiteWords> maker) {
        StringBuilder told = new StringBuilder(of(maker.get()));
        for (int undone = 1; undone <= 4; undone++) {
            told.append("\nundo ").append(behind(maker, undone, KiteWords::undo));
        }
        told.append("\nrestore ").append(behind(maker, 1, KiteWords::restore));
        told.append("\nreadRow ").append(behind(maker, 1, KiteWords::readRow));
        told.append("\nwant ").append(behind(maker, 1, KiteWords::want));
        told.append("\ncome ").append(behind(maker, 1, kites -> kites.come('q', 7)));
        told.append("\ntype ").append(behind(maker, 2, kites -> kites.type('1')));
        told.append("\nsetTangle ").append(behind(maker, 1, kites -> kites.setTangle(1)));
        told.append("\nsetTangle ").append(behind(maker, 1, kites -> kites.setTangle(2)));
        return told.toString();
    }

    private static String behind(Supplier<KiteWords> maker, int times, ToIntFunction<KiteWords> call) {
        KiteWords kites = maker.get();
        StringBuilder told = new StringBuilder();
        for (int i = 0; i < times; i++) {
            told.append(call.applyAsInt(kites)).append(' ');
        }
        return told.append(kites.count(12)).append(": ").append(of(kites)).toString();
    }
}
