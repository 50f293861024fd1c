import java.lang.management.ManagementFactory;

/**
 * The dearest runs of 512 calls that there are, and what they make. An object takes 16 bytes at least, and a field or an
 * element one, so the bytes of a run bound both: 600,000 objects and arrays, 7.3 million fields and elements.
 */
public final class RoomTest {
  private static final int CALLS = 512;
  private static final long ROOM = 7_300_000;
  private static final Check check = new Check("RoomTest");

  interface Run {
    void on(Treebark x);
  }

  private static long bytesSoFar() {
    return ((com.sun.management.ThreadMXBean) ManagementFactory.getThreadMXBean()).getCurrentThreadAllocatedBytes();
  }

  private static void room(String what, Run run) {
    long before = bytesSoFar();
    run.on(new Treebark());
    long bytes = bytesSoFar() - before;
    check.due(what + " makes less than a fifth of the room, as several may share it: " + bytes, true, bytes < ROOM / 5);
  }

  private static void tenFiles(Treebark x) {
    for (int name = 0; name < 10; name++) {
      x.create(0, name);
      x.write(0, name, 0, 1, name, 0);
    }
  }

  private static void receive(Treebark x) {
    x.branch(0, true);
    tenFiles(x);
    x.branch(0, true);
    x.send(1, 2);
    for (int i = 24; i < CALLS; i += 2) {
      x.drop(x.receive(1));
    }
  }

  private static void crash(Treebark x) {
    tenFiles(x);
    for (int tree = 1; tree < 6; tree++) {
      x.branch(0, false);
    }
    x.commit();
    for (int i = 26; i + 61 <= CALLS; i += 61) {
      for (int file = 0; file < 60; file++) {
        x.log(file / 10, file % 10);
      }
      x.crash();
    }
  }

  private static void write(Treebark x) {
    x.create(0, 0);
    for (int i = 1; i + 2 <= CALLS; i += 2) {
      x.commit();
      x.write(0, 0, 0, 4, 1, 1);
    }
  }

  private static void log(Treebark x) {
    tenFiles(x);
    for (int i = 20; i < CALLS; i++) {
      x.log(0, i % 10);
    }
  }

  public static void main(String[] args) {
    check.promise("the room of a run");
    room("a new object", x -> { });
    room("receive", RoomTest::receive);
    room("crash", RoomTest::crash);
    room("write", RoomTest::write);
    room("log", RoomTest::log);
    check.end();
  }
}
