import java.lang.management.ManagementFactory;

/** What the constructor makes is small, and no call makes anything (but for exceptions). */
public final class RoomTest {
    private static final String TEXT = "town a 1;town b 2;town c 3;town d 4;town e 5;town f 6;town g 7;"
            + "link b a 10 5;link c b 20 4;link d b 5 9;link e d 7 7;link g f 3 8;seed 42;settle a;root c;touch e;";

    private RoomTest() {
    }

    public static void main(String[] args) {
        com.sun.management.ThreadMXBean bean = (com.sun.management.ThreadMXBean) ManagementFactory.getThreadMXBean();
        long self = Thread.currentThread().getId();
        TownForest first = new TownForest();
        Check.tell(first, TEXT);
        everyCall(first);
        long before = bean.getThreadAllocatedBytes(self);
        TownForest x = new TownForest();
        long made = bean.getThreadAllocatedBytes(self) - before;
        Check.due("an object of " + made + " bytes is small", made < 40000 ? 1 : 0, 1);
        Check.tell(x, TEXT);
        before = bean.getThreadAllocatedBytes(self);
        for (int i = 0; i < 10; i++) {
            everyCall(x);
        }
        long more = bean.getThreadAllocatedBytes(self) - before;
        // Asking the bean itself takes some bytes.
        Check.due("calls that made " + more + " bytes made nothing", more < 1000 ? 1 : 0, 1);
        Check.end("RoomTest");
    }

    private static void everyCall(TownForest x) {
        x.feed(0x6e3b6e3b, 1, 2, 3, 4);
        x.text(3);
        x.fault(0);
        x.named(1 << 25);
        x.touch(4);
        x.reroot(2);
        x.link(5, 0, 1, 1);
        x.cut(5, 0);
        x.walk(2, 4);
        x.seen(3);
        x.meet(2, 4);
        x.raise(2, 4, 1);
        x.send(2, 4, 0);
        x.settle(0);
        x.exchange(5, 0, 1, 1);
        x.cutDearest(5, 0);
        x.shed(0);
        x.link(0, 1, 10, 5);
        x.value(0, 1);
        x.town(0, 6);
        x.chain(0, 4);
        x.above(4, 1);
        x.along(2, 4, 1);
        x.together(2, 4);
        x.far(2, 4);
        x.meets(2, 4);
        x.room(2, 4);
        x.order(2, 3);
        x.place(4);
        x.joint(0, 6, 0);
        x.tightest(0);
        x.heavy(0);
        x.potential();
        x.would(4);
        x.widest(0, 0);
        x.midst(0);
        x.parts(5);
        x.dearest(0);
        x.leastFor(2);
        x.keep();
        x.chance(1, 60, 1);
        x.undo();
        x.back();
        x.count(3);
    }
}
