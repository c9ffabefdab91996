import java.lang.management.ManagementFactory;
import java.util.Random;

/** Whatever is asked, in whatever state: the machine throws nothing, a call ends, and it makes next to nothing. */
public final class RoomTest {
    private static final int[] WILD = {Integer.MIN_VALUE, Integer.MIN_VALUE + 1, -65536, -5, -4, -3, -2, -1, 0, 1, 2, 3, 4,
        5, 7, 8, 9, 11, 12, 13, 16, 17, 24, 25, 29, 39, 40, 59, 60, 61, 255, 256, 65536, Integer.MAX_VALUE - 1, Integer.MAX_VALUE};
    private static final Random chance = new Random(34);

    private static int any() { return WILD[chance.nextInt(WILD.length)]; }

    private static long wild(ElectingWind x) {
        switch (chance.nextInt(34)) {
            case 0: return x.type(any(), any());
            case 1: return x.type(chance.nextInt(3), ".#;nesw0123456789hox".charAt(chance.nextInt(20)));
            case 2: return x.wipe(any());
            case 3: return x.undo(any());
            case 4: return x.fault(any());
            case 5: return x.cell(any());
            case 6: return x.gust(any(), any());
            case 7: return x.candidate(any(), any());
            case 8: return x.wind(any(), any());
            case 9: return x.ribs(any(), any());
            case 10: return x.overturns(any(), any());
            case 11: return x.in(any());
            case 12: return x.first(any());
            case 13: return x.lulls();
            case 14: return x.stand(any(), any());
            case 15: return x.shield(any());
            case 16: return x.move(any());
            case 17: return x.bribe(any());
            case 18: return x.seen(any(), any());
            case 19: return x.forget();
            case 20: return x.read(any());
            case 21: return x.blew(any(), any());
            case 22: return x.had(any());
            case 23: return x.ask(any());
            case 24: return x.calm(any(), any(), any());
            case 25: return x.weather(any(), any(), any());
            case 26: return x.sheet(any(), any(), any());
            case 27: return x.lose(any());
            case 28: return x.put(any(), any(), any(), any());
            case 29: return x.get(any(), any(), any());
            case 30: return x.copy(any(), any(), any(), any(), any());
            case 31: return x.write(any(), any());
            case 32: return x.count(any());
            default: return x.digest();
        }
    }

    private static ElectingWind full() {
        return Checks.told(".....;.....;..#..;.....;.....", "n9e9s9w9n9e9s9w9n9e9s9w9",
            "009h;019h;029h;039h;049h;059h;069h;079h");
    }

    private static long bytesMade() {
        return ((com.sun.management.ThreadMXBean) ManagementFactory.getThreadMXBean())
            .getThreadAllocatedBytes(Thread.currentThread().getId());
    }

    private static boolean makesLittle() {
        ElectingWind x = full();
        x.digest();
        bytesMade();
        long before = bytesMade();
        long h = 0;
        for (int call = 0; call < 100; call++) {
            h += x.undo(2) + x.type(2, 'h') + x.digest() + x.sheet(0, 2, 60) + x.write(0, 0) + x.read(0) + x.forget();
        }
        long made = bytesMade() - before;
        if (made > 20000) System.out.println("RoomTest: 700 calls made " + made + " bytes of objects (" + h + ")");
        return made <= 20000;
    }

    public static void main(String[] args) {
        long h = 0;
        for (int run = 0; run < 60; run++) {
            ElectingWind x = run % 3 == 0 ? new ElectingWind() : full();
            for (int call = 0; call < 1000; call++) h = 31 * h + wild(x);
        }
        boolean little = makesLittle();
        System.out.println("RoomTest: 60000 wild calls have ended, the last sum is " + h);
        if (!little) System.exit(1);
    }
}
