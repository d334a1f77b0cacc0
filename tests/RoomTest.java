import java.lang.management.ManagementFactory;

/** All calls of one run live in one room of some 7.3 million elements: what an object and its calls make, in bytes. */
public final class RoomTest {
    private static final int CALLS = 80;
    private static final long OBJECT = 2_000_000;
    private static final long ALL_CALLS = 20_000_000;
    private static int wrong = 0;

    private interface Call {
        void run(ShadowHerds x, int i);
    }

    private static long made() {
        com.sun.management.ThreadMXBean bean = (com.sun.management.ThreadMXBean) ManagementFactory.getThreadMXBean();
        return bean.getThreadAllocatedBytes(Thread.currentThread().getId());
    }

    /** So many calls, some of five calls each, that the object is used for at most 512; six times that is a full run. */
    private static void small(String what, Call call) {
        ready();
        ShadowHerds x = ready();
        call.run(x, 0);
        long before = made();
        for (int i = 0; i < CALLS; i++) {
            call.run(x, i);
        }
        long bytes = made() - before;
        if (bytes > ALL_CALLS / 6) {
            wrong++;
            System.out.println("room: " + what + " makes " + bytes + " bytes in " + CALLS + " calls");
        }
    }

    private static void told(ShadowHerds x, String text) {
        StringBuilder all = new StringBuilder(text);
        while (all.length() % 20 != 0) {
            all.append(' ');
        }
        for (int i = 0; i < all.length(); i += 20) {
            int[] n = new int[5];
            for (int k = 0; k < 20; k++) {
                n[k / 4] = n[k / 4] << 8 | all.charAt(i + k);
            }
            x.feed(n[0], n[1], n[2], n[3], n[4]);
        }
        x.end(text.length());
    }

    private static ShadowHerds ready() {
        ShadowHerds x = new ShadowHerds();
        for (int c = 0; c < 5; c++) {
            x.cloud(3, 3, c % 3, c, c);
        }
        x.wind(1, 1, 0);
        x.wind(2, 0, 1);
        told(x, "heats hour * 2 if shade < 3; worth x + y; bars if hour % 4 = cloud");
        x.law();
        x.force(0);
        for (int i = 0; i < 8; i++) {
            x.flag(i % 11, i / 2, i % 4);
            x.contract(9 + i, i % 6, i % 6 + 2, 1, 1 + i);
            x.sight(i, 9 + i, i % 2);
        }
        x.image(0);
        return x;
    }

    public static void main(String[] args) {
        new ShadowHerds();
        long before = made();
        new ShadowHerds();
        long bytes = made() - before;
        if (bytes > OBJECT) {
            wrong++;
            System.out.println("room: an object takes " + bytes + " bytes");
        }
        small("heat", (x, i) -> x.heat(i % 64, 12));
        small("scorched", (x, i) -> x.scorched(i % 64));
        small("judge", (x, i) -> x.judge(0));
        small("drive", (x, i) -> x.drive(0, i % 64, 3, 5, -1));
        small("pasture", (x, i) -> x.pasture(i % 5, 11, 10));
        small("serve", (x, i) -> x.serve(i % 5, 1));
        small("part", (x, i) -> x.part(0, 1));
        small("likely", (x, i) -> x.likely(0, i % 64, 11));
        small("surest", (x, i) -> x.surest(0, i % 64, 11));
        small("steer", (x, i) -> x.steer(0, i % 64, 11, 0, 3, 3));
        small("stray", (x, i) -> x.stray(2, 2, 0, -1));
        small("rustled", (x, i) -> x.rustled(-1));
        small("men", (x, i) -> x.men());
        small("duel", (x, i) -> x.duel(0, i % 64, 11, 0));
        small("summer", (x, i) -> x.summer(i, 30));
        small("image", (x, i) -> x.image(0));
        small("back", (x, i) -> x.back(0));
        small("drives", (x, i) -> {
            told(x, "flag 0 to left 0 4 % 4 at 9");
            x.drives();
        });
        small("law", (x, i) -> {
            told(x, "worth x if x < 3 or y = 9; bars");
            x.law();
            x.back(0);
        });
        System.out.println(wrong == 0 ? "the room is large enough" : wrong + " calls take too much room");
        if (wrong != 0) {
            System.exit(1);
        }
    }
}
