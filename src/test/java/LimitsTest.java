import java.lang.management.ManagementFactory;
import java.util.Random;

/** Wild arguments in any state and far more than 512 calls: every call ends, none throws, none makes an object. */
public final class LimitsTest {
    private static final Due due = new Due("LimitsTest");
    private static final int[] EDGES = {Integer.MIN_VALUE, Integer.MIN_VALUE + 1, -10000, -2, -1, 0, 1, 2, 3, 7, 8, 9,
        10, 11, 12, 13, 59, 60, 61, 98, 99, 9998, 9999, 10000, Integer.MAX_VALUE - 1, Integer.MAX_VALUE};

    public static void main(String[] args) {
        everyEdge();
        longRuns();
        makesNoObject();
        due.close();
    }

    private static void everyEdge() {
        KiteWords[] all = {new KiteWords(), Due.withRow("a9"), Due.withRow("a9,b1,c9,d1,e9,f1,g9,h1,i9,j1,k9,l1")};
        for (KiteWords kites : all) {
            for (int first : EDGES) {
                for (int second : EDGES) {
                    for (int call = 0; call < 25; call++) {
                        call(kites, call, first, second, second);
                    }
                }
            }
            due.holds("a row still", kites.count(0) >= 0 && kites.count(0) <= 12);
        }
    }

    private static void longRuns() {
        for (int seed = 0; seed < 40; seed++) {
            Random random = new Random(seed);
            KiteWords kites = new KiteWords();
            for (int i = 0; i < 5000; i++) {
                int first = random.nextInt(4) == 0 ? EDGES[random.nextInt(EDGES.length)] : random.nextInt(12);
                call(kites, random.nextInt(25), first, random.nextInt(6), random.nextInt(6));
            }
            due.holds("a row still", kites.count(0) >= 0 && kites.count(0) <= 12);
            due.holds("no more minutes than there are", kites.count(1) <= 9999);
        }
    }

    private static void makesNoObject() {
        com.sun.management.ThreadMXBean threads = (com.sun.management.ThreadMXBean) ManagementFactory.getThreadMXBean();
        long thread = Thread.currentThread().getId();
        KiteWords warm = new KiteWords();
        KiteWords kites = new KiteWords();
        busy(warm);
        threads.getThreadAllocatedBytes(thread);
        long before = threads.getThreadAllocatedBytes(thread);
        busy(kites);
        long bytes = threads.getThreadAllocatedBytes(thread) - before;
        // The measure itself takes some; an object a call would be 8000 bytes and more.
        due.holds("500 calls took " + bytes + " bytes", bytes < 4000);
    }

    private static void busy(KiteWords kites) {
        for (int i = 0; i < 500; i++) {
            int call = i % 25;
            call(kites, call == 14 && kites.count(0) > 4 ? 20 : call, i / 25 % 9, 1 + i % 5, i % 4);
        }
    }

    private static int call(KiteWords kites, int call, int first, int second, int third) {
        switch (call) {
            case 0: return kites.come((char) first, second);
            case 1: return kites.come((char) ('a' + (second & 3)), 1 + (first & 7));
            case 2: return kites.readRow();
            case 3: return kites.pay(first, second);
            case 4: return kites.trade(first);
            case 5: return kites.pass(first);
            case 6: return kites.wind(first, second);
            case 7: return kites.wind(first & 3, second);
            case 8: return kites.planTurn(first, second, third);
            case 9: return kites.planTurn(kites.count(1) + (first & 7), second, third);
            case 10: return kites.dropTurn(first);
            case 11: return kites.crowd((first & 1) == 0);
            case 12: return kites.setTangle(first);
            case 13: return kites.want();
            case 14: return kites.go(first);
            case 15: return kites.type((char) first) + kites.type((char) ('a' + (first & 3)));
            case 16: return kites.type("a1,b".charAt(first & 3));
            case 17: return (first & 7) == 0 ? kites.clearText() : kites.count(first);
            case 18: return (first & 3) == 0 ? kites.undo() : kites.reads(first);
            case 19: return (first & 7) == 0 ? kites.keep() + kites.restore() : kites.nextTrade();
            case 20: return kites.flier(first, second);
            case 21: return kites.ifTraded(first, second);
            case 22: return kites.spelledIn();
            case 23: return kites.turnOf(first, second);
            default: return kites.tangle(first, second);
        }
    }
}
