import java.lang.management.ManagementFactory;
import java.util.function.IntConsumer;

/** All calls of one run live in one room: what an object and its calls make is counted in bytes. */
public final class RoomTest {
    private static final int CALLS = 500;
    private static int wrong = 0;

    private static long made() {
        com.sun.management.ThreadMXBean bean = (com.sun.management.ThreadMXBean) ManagementFactory.getThreadMXBean();
        return bean.getThreadAllocatedBytes(Thread.currentThread().getId());
    }

    private static void small(String what, long most, ShadowHerds x, IntConsumer call) {
        call.accept(0);
        long before = made();
        for (int i = 0; i < CALLS; i++) {
            call.accept(i);
        }
        long bytes = made() - before;
        if (bytes > most) {
            wrong++;
            System.out.println("room: " + what + " makes " + bytes + " bytes in " + CALLS + " calls");
        }
    }

    private static void told(ShadowHerds x, String text) {
        StringBuilder all = new StringBuilder(text);
        while (all.length() % 20 != 0) {
            all.append(' ');
        }
        for (int i = 0; i < all.length(); i += 20) {
            int[] n = new int[5];
            for (int k = 0; k < 20; k++) {
                n[k / 4] = n[k / 4] << 8 | all.charAt(i + k);
            }
            x.feed(n[0], n[1], n[2], n[3], n[4]);
        }
        x.end(text.length());
    }

    public static void main(String[] args) {
        new ShadowHerds();
        long before = made();
        ShadowHerds x = new ShadowHerds();
        long bytes = made() - before;
        if (bytes > 300_000) {
            wrong++;
            System.out.println("room: an object takes " + bytes + " bytes");
        }
        for (int c = 0; c < 5; c++) {
            x.cloud(3, 3, c % 3, c, c);
        }
        x.wind(1, 1, 0);
        x.wind(2, 0, 1);
        told(x, "heats hour * 2 if shade < 3; worth x + y; bars if hour % 4 = cloud");
        x.law();
        x.force(0);
        for (int i = 0; i < 24; i++) {
            x.flag(i % 11, i / 11, i % 4);
            x.contract(9 + i, i % 6, i % 6 + 2, 1, 1 + i);
            x.sight(i % 12, 9 + i, i % 2);
        }
        long few = 4_000;
        small("heat", few, x, i -> x.heat(i % 64, 12));
        small("scorched", few, x, i -> x.scorched(i % 64));
        small("judge", few, x, i -> x.judge(0));
        small("drive", few, x, i -> x.drive(0, i % 64, 3, 5, -1));
        small("pasture", few, x, i -> x.pasture(i % 5, 11, 10));
        small("serve", few, x, i -> x.serve(i % 5, 1));
        small("part", few, x, i -> x.part(0, 1));
        small("likely", few, x, i -> x.likely(0, i % 64, 11));
        small("surest", few, x, i -> x.surest(0, i % 64, 11));
        small("steer", few, x, i -> x.steer(0, i % 64, 11, 0, 3, 3));
        small("stray", few, x, i -> x.stray(2, 2, 0, -1));
        small("rustled", few, x, i -> x.rustled(-1));
        small("men", few, x, i -> x.men());
        small("duel", few, x, i -> x.duel(0, i % 64, 6, 0));
        small("summer", few, x, i -> x.summer(i, 3));
        small("image", few, x, i -> x.image(0));
        small("back", few, x, i -> x.back(0));
        small("drives", 300_000, x, i -> {
            told(x, "flag 0 to left 0 4 % 4 at 9 times 20 if top 1 2 > 99");
            x.drives();
        });
        small("law", 2_000_000, x, i -> {
            told(x, "worth 1 + 1 + 1 + 1 + 1 if x < 3 and y > 4 or hour = 3; bars if layer = 2");
            x.law();
            x.back(0);
        });
        System.out.println(wrong == 0 ? "the room is large enough" : wrong + " calls take too much room");
        if (wrong != 0) {
            System.exit(1);
        }
    }
}
