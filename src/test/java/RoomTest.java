import java.lang.management.ManagementFactory;

/** All calls of a run live in one room: what 512 calls make stays small, whichever they are. */
final class RoomTest {
    private static final long MOST_BYTES = 4_000_000;
    private static final Due DUE = new Due("RoomTest");

    public static void main(String[] args) {
        long before = bytes();
        OneVerb x = new OneVerb();
        long made = bytes() - before;
        DUE.is("a new object makes " + made + " bytes, few enough", made < 400_000, true);
        before = bytes();
        int calls = 0;
        calls += lands(x);
        calls += sayings(x);
        calls += questions(x);
        long used = bytes() - before;
        DUE.is(calls + " calls make " + used + " bytes, few enough", used < MOST_BYTES, true);
        System.out.println("RoomTest: a new object " + made + " bytes, " + calls + " calls " + used + " bytes");
        DUE.end();
    }

    private static long bytes() {
        return ((com.sun.management.ThreadMXBean) ManagementFactory.getThreadMXBean())
            .getThreadAllocatedBytes(Thread.currentThread().getId());
    }

    private static int lands(OneVerb x) {
        for (int i = 0; i < 60; i++) {
            x.land();
            Due.land(x, "places 4;thing a weigh 1;");
        }
        Due.land(x, "places 4;thing a weigh 3;thing b weigh 7;thing c weigh 11;thing d weigh 50;thing e weigh 99;"
            + "bend f place+1;bend g place*weight+1;bend h 3-place;verb u first<second;verb v first*second=light-heavy+3;"
            + "verb w first+second<heavy-light;verb x first*3<second*light and not alike;"
            + "verb y first=second or light<heavy and first=2;verb z first+1=second or (second*second)<first;"
            + "speaker p wants u 3 v 4;speaker q wants x 9;speaker r wants z 7;");
        return 60 * 4 + 20;
    }

    private static int sayings(OneVerb x) {
        for (int i = 0; i < 20; i++) {
            Due.say(x, "not a b or f c d;");
            Due.order(x, "a b and c d;", 1);
            Due.ask(x, "a b and c d and e a;");
            x.unsay(0);
            x.undo();
        }
        return 20 * 8;
    }

    private static int questions(OneVerb x) {
        for (int i = 0; i < 8; i++) {
            x.shortest(0, 0);
            x.two(0, 0);
            x.riddle(2);
            x.clash();
            x.rests(NONE);
            x.cover(1);
            x.sayable(0, 0);
            x.tells(5);
            x.year(i, 60, 2);
            x.mark(i % 4, i % 2 == 1);
            x.worlds(1);
        }
        return 8 * 11;
    }

    private static final int NONE = OneVerb.NONE;
}
