import java.lang.management.ManagementFactory;

/**
 * All calls of one run live in one room of some 7.3 million fields and elements. Each field and element takes a byte
 * or more here, so a run that takes fewer bytes than that stays within it.
 */
public final class RoomTests {
    private static final long ROOM = 7_000_000;
    private static final int CALL_LIMIT = 512;
    private static final int DRAWERS = 4;

    private interface Call {
        int on(SettingsDrawer x);
    }

    public static void main(String[] args) {
        measure("append of long texts", RoomTests::longSlots, x -> x.erase(1) + x.copy(0, 1) + x.append(1, 'a'), 3);
        measure("load of many entries", RoomTests::manyEntries, x -> x.load(0), 1);
        measure("load of long entries", RoomTests::longEntry, x -> x.load(0), 1);
        measure("write", RoomTests::longEntry, x -> x.write(1), 1);
        measure("names", RoomTests::manyEntries, x -> x.names(3), 1);
        measure("name", RoomTests::manyEntries, x -> x.name(3, 159, 1), 1);
        measure("tokenizeAll", RoomTests::longSlots, x -> x.tokenizeAll(0, 0, 0), 1);
        measure("next of long tokens", RoomTests::longSlots, x -> x.tokenizeBy(0, 0, 3) + x.next(0, 1), 2);
        measure("add and joined", RoomTests::longSlots, x -> x.join(0, 3) + x.add(0, 0) + x.add(0, 3) + x.joined(0, 1), 4);
        measure("merge", RoomTests::longSlots, x -> x.join(0, 3) + x.merge(0, 1) + x.joined(0, 1), 3);
        measure("setJoined", RoomTests::longSlots, x -> x.setJoined(1, 3, 1), 1);
        measure("keep and restore", RoomTests::manyEntries, x -> x.keep(0) + x.restore(0), 2);
        Check.finish("RoomTests");
    }

    private static long bytes() {
        com.sun.management.ThreadMXBean threads = (com.sun.management.ThreadMXBean) ManagementFactory.getThreadMXBean();
        return threads.getThreadAllocatedBytes(Thread.currentThread().getId());
    }

    private static void measure(String name, java.util.function.Consumer<SettingsDrawer> start, Call call, int callsEach) {
        run(start, call, callsEach);
        long used = run(start, call, callsEach);
        Check.due(name + ": bytes of " + CALL_LIMIT + " calls are beyond the room", used > ROOM ? used : 0, 0);
    }

    /** On four drawers, for a drawer answers 512 calls, the start's own among them; these are measured on top. */
    private static long run(java.util.function.Consumer<SettingsDrawer> start, Call call, int callsEach) {
        long before = bytes();
        for (int drawer = 0; drawer < DRAWERS; drawer++) {
            SettingsDrawer x = new SettingsDrawer();
            start.accept(x);
            for (int calls = 0; calls < CALL_LIMIT / DRAWERS; calls += callsEach) {
                call.on(x);
            }
        }
        return bytes() - before;
    }

    private static void longSlots(SettingsDrawer x) {
        Check.putMany(x, 0, 'x', 299);
        Check.put(x, 3, "");
        x.join(1, 0);
        x.add(1, 0);
    }

    private static void manyEntries(SettingsDrawer x) {
        for (int i = 0; i < 150; i++) {
            x.type('0' + i % 40);
            x.type('\n');
        }
        for (int layer = 0; layer < 4; layer++) {
            x.load(layer);
        }
    }

    private static void longEntry(SettingsDrawer x) {
        x.type('a');
        x.type('=');
        for (int i = 0; i < 298; i++) {
            x.type('b');
        }
        x.load(1);
    }
}
