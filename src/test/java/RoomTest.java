import java.lang.management.ManagementFactory;

/**
 * All calls of a run live in one room of some 600,000 objects, 7.3 million fields and elements, so the
 * class makes its rows with each object and nothing in its calls: here by what the machine has counted.
 */
public final class RoomTest {
    private static final int BYTES_OF_AN_OBJECT = 64000;

    public static void main(String[] args) {
        com.sun.management.ThreadMXBean counter =
                (com.sun.management.ThreadMXBean) ManagementFactory.getThreadMXBean();
        long id = Thread.currentThread().getId();
        everyCall(prepared());
        ForgetStream x = prepared();
        long before = counter.getThreadAllocatedBytes(id);
        everyCall(x);
        long inCalls = counter.getThreadAllocatedBytes(id) - before;
        before = counter.getThreadAllocatedBytes(id);
        ForgetStream y = new ForgetStream();
        long inNew = counter.getThreadAllocatedBytes(id) - before;
        if (inCalls > 1000) {
            System.out.println("the calls made " + inCalls + " bytes of objects");
            System.exit(1);
        }
        if (inNew > BYTES_OF_AN_OBJECT || y.status() != 0) {
            System.out.println("a new object has " + inNew + " bytes");
            System.exit(1);
        }
    }

    private static ForgetStream prepared() {
        StringBuilder glen = new StringBuilder("long 16;");
        for (char name = 'a'; name <= 'h'; name++) {
            glen.append("thing ").append(name).append(" weighs 1 grips 3 minds 2;");
        }
        glen.append("mill p at 3 up;mill q at 4 both;");
        ForgetStream x = Checks.with(glen.toString());
        Checks.feed(x, "loop 99;any;hour 5;end;");
        return x;
    }

    /** Each call, most of them as dear as they can be. */
    private static void everyCall(ForgetStream x) {
        x.days(23);
        x.tray(0, 0, 60);
        x.tray(1, 0, 60);
        x.write(0, 1, 1);
        x.read(0, 1);
        x.pour(0, 0, 1, 0, 60);
        x.game(0, 1, 2);
        x.moveOf(0, 1, 2, 0);
        x.drive(0, 0, 1, 48);
        x.driveCell(0, 0, 1, 48, 1);
        x.soonest(0);
        x.soonestIn(0);
        x.aim(0, 60);
        x.mean(0, 20);
        x.share(0);
        x.rain(12, 6);
        x.mark();
        x.live(77);
        x.lived(0);
        x.ring();
        x.turnIn();
        x.quietIn();
        x.homeIn(0);
        x.atIn(400);
        x.carriedIn(400);
        x.turnsIn(400);
        x.groundIn(0, 400);
        x.minded(0, 0, 20);
        x.mindedAt(0, 0, 20, 0);
        x.ask(0, 0, 20);
        x.heaviest();
        x.heaviestWeight();
        x.ride(0, 15);
        x.waits(0, 15);
        x.copyHours(0);
        x.hour(168);
        x.toss(0, 1);
        x.fetch(0);
        x.grip(0, 1);
        x.mind(0, 1);
        x.rule(3, 1);
        x.make(1, 1, 1);
        x.build(0, 0);
        x.goal();
        x.goalThing();
        x.cellOf(0);
        x.told(0);
        x.thing(0, 0);
        x.mill(0, 0);
        x.undo();
        x.feed(0x6C6F6E67, 0x20393B20, 0x2020200A, 0x20202020, 0x20202020);
        x.glen(20);
        x.fault(0);
    }
}
