import com.sun.management.ThreadMXBean;
import java.lang.management.ManagementFactory;

/** What is made stays: a run of the dearest calls keeps far below the room that all calls of a run share. */
public final class RoomTest {
    private static final Check CHECK = new Check("RoomTest");
    private static final String FULL = "town 8 3;street 0 1;street 1 2;street 2 3;street 3 4;street 4 5;street 5 6;"
            + "street 6 7;street 7 0;street 0 4;street 1 5;person 0 5 0;person 1 4 1;person 2 3 0;person 3 2 1;"
            + "person 4 1 0;person 5 0 1;stranger 0 7 1;stranger 1 6 2;stranger 2 5 3;stranger 3 0 1;stranger 4 2 1";

    private RoomTest() {
    }

    private static long made() {
        return ((ThreadMXBean) ManagementFactory.getThreadMXBean()).getCurrentThreadAllocatedBytes();
    }

    private static void ask(WayMayor x) {
        x.ahead(0, 100, 0);
        x.mayor(5);
        x.pitch(0, 60, 0);
        x.smile(5, 60);
        x.came(0, 30, 0, 0);
        x.liars(0);
        x.post(60, 0);
        x.game(0, 1, 3, 0);
        x.rests(0, 1, 20, 0);
        x.ruled(0);
        x.look(60, 0);
        x.markets(10, 60, 100, 0);
        x.pence(9999, 0);
        x.hour();
        x.undo();
    }

    public static void main(String[] args) {
        Check.inTown(FULL).hour();
        long begin = made();
        WayMayor x = new WayMayor();
        CHECK.holds("a new object is small", made() - begin < 100_000);
        for (int i = 0; i < 6; i++) {
            Check.rule(x, "ask kind+" + i + " if before<" + i + " or not [asked>far and chain=0]");
        }
        Check.town(x, FULL);
        x.force(3);
        x.note(60, 0, WayMayor.NONE);
        for (int k = 0; k < 4; k++) {
            x.image(k);
        }
        ask(x);
        begin = made();
        for (int i = 0; i < 20; i++) {
            ask(x);
            x.image(i % 4);
            x.back(i % 4);
        }
        CHECK.holds("what is asked makes nothing", made() - begin < 10_000);
        begin = made();
        for (int i = 0; i < 100; i++) {
            x.town();
            x.rule();
        }
        CHECK.holds("a text makes little", made() - begin < 100 * 1_000);
        CHECK.close();
    }
}
