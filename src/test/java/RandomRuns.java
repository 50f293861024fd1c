import java.util.ArrayList;
import java.util.List;
import java.util.Random;
import java.util.concurrent.Callable;

/** Runs of random calls (always the same ones), each held against NaiveTreebark, with all that can be seen behind it. */
public final class RandomRuns {
  private static int passed = 0;
  private static int failed = 0;

  private final Random random;
  private final Treebark real = new Treebark();
  private final NaiveTreebark naive = new NaiveTreebark();
  private final List<String> told = new ArrayList<>();
  private final int names;
  private final int values;
  private final int wrongs;
  private final int kind;

  private RandomRuns(int seed) {
    random = new Random(seed);
    kind = random.nextInt(5);
    names = 2 + random.nextInt(kind == 2 ? 4 : 9);
    values = random.nextBoolean() ? 3 : 1000;
    wrongs = random.nextInt(3) == 0 ? 12 : 60;
  }

  static Object outcome(Callable<Object> call) {
    try {
      return call.call();
    } catch (Exception e) {
      return e.getClass();
    }
  }

  private boolean same(String call, Callable<Object> ours, Callable<Object> due) {
    Object want = outcome(due);
    Object got = outcome(ours);
    told.add(call + " -> " + got);
    if (want.equals(got)) {
      return true;
    }
    System.out.println(call + " answered " + got + ", due is " + want + " after");
    for (String one : told) {
      System.out.println("    " + one);
    }
    return false;
  }

  private boolean wrong() {
    return random.nextInt(wrongs) == 0;
  }

  private int tree() {
    if (wrong()) {
      return random.nextInt(9) - 2;
    }
    List<Integer> there = new ArrayList<>(naive.live.keySet());
    return there.get(random.nextInt(there.size()));
  }

  /** Mostly a SNAPSHOT, or mostly none, so that most calls do what they are for. */
  private int tree(boolean snapshot) {
    int tree = tree();
    for (int i = 0; i < 12 && naive.live.containsKey(tree) && naive.live.get(tree).snapshot != snapshot; i++) {
      tree = tree();
    }
    return tree;
  }

  private int name() {
    return wrong() ? random.nextInt(14) - 2 : random.nextInt(names);
  }

  private int nameIn(int tree) {
    if (!naive.live.containsKey(tree) || random.nextInt(12) == 0 || naive.live.get(tree).root.names.isEmpty()) {
      return name();
    }
    List<Integer> there = new ArrayList<>(naive.live.get(tree).root.names.keySet());
    return there.get(random.nextInt(there.size()));
  }

  private int place() {
    return wrong() ? random.nextInt(20) - 2 : random.nextInt(16);
  }

  private int many(int most) {
    return wrong() ? random.nextInt(most + 4) - 2 : 1 + random.nextInt(most);
  }

  private int fitting(int at, int many) {
    return random.nextInt(8) == 0 ? at : Math.max(0, Math.min(at, 16 - Math.min(16, Math.max(many, 1))));
  }

  private boolean call() {
    if (kind == 2 && random.nextBoolean()) {
      return random.nextBoolean() ? callOfNames() : callOfLog();
    }
    switch (random.nextInt(8)) {
      case 0:
        return callOfNames();
      case 1: case 2: case 3:
        return callOfPlaces();
      case 4:
        return callThatAsks();
      case 5:
        return callOfTrees();
      default:
        return random.nextBoolean() ? callOfDisks() : callOfSending();
    }
  }

  private boolean callOfNames() {
    int t = tree(false);
    int n = nameIn(t);
    switch (random.nextInt(5)) {
      case 0: case 1: {
        int m = random.nextInt(3) == 0 ? n : name();
        return same("create(" + t + ", " + m + ")", () -> real.create(t, m), () -> naive.create(t, m));
      }
      case 2: {
        int m = name();
        return same("link(" + t + ", " + n + ", " + m + ")", () -> real.link(t, n, m), () -> naive.link(t, n, m));
      }
      case 3:
        return random.nextInt(3) > 0 || same("unlink(" + t + ", " + n + ")", () -> real.unlink(t, n), () -> naive.unlink(t, n));
      default: {
        int m = name();
        boolean x = random.nextBoolean();
        return same("rename(" + t + ", " + n + ", " + m + ", " + x + ")", () -> {
          real.rename(t, n, m, x);
          return 0;
        }, () -> {
          naive.rename(t, n, m, x);
          return 0;
        });
      }
    }
  }

  /** Few names, logged and changed often, so that files of the log take names of one another. */
  private boolean callOfLog() {
    int t = tree(random.nextInt(4) == 0);
    int n = nameIn(t);
    switch (random.nextInt(8)) {
      case 0:
        return same("crash()", () -> real.crash(), () -> naive.crash());
      case 1:
        return random.nextBoolean() || same("commit()", () -> real.commit(), () -> naive.commit());
      case 2:
        return callOfSending();
      default:
        return same("log(" + t + ", " + n + ")", () -> real.log(t, n), () -> naive.log(t, n));
    }
  }

  private boolean callThatAsks() {
    int t = tree();
    int n = nameIn(t);
    int at = place();
    int t2 = tree();
    switch (random.nextInt(9)) {
      case 0:
        return same("file(" + t + ", " + n + ")", () -> real.file(t, n), () -> naive.file(t, n));
      case 1: case 2: case 3: case 4:
        return same("read(" + t + ", " + n + ", " + at + ")", () -> real.read(t, n, at), () -> naive.read(t, n, at));
      case 5: {
        int what = wrong() ? random.nextInt(7) - 2 : random.nextInt(3);
        return same("ofFile(" + t + ", " + n + ", " + what + ")", () -> real.ofFile(t, n, what), () -> naive.ofFile(t, n, what));
      }
      case 6:
        return same("references(" + t + ", " + n + ", " + at + ")", () -> real.references(t, n, at), () -> naive.references(t, n, at));
      case 7: {
        int what = wrong() ? random.nextInt(8) - 2 : random.nextInt(4);
        return same("ofTree(" + t + ", " + what + ")", () -> real.ofTree(t, what), () -> naive.ofTree(t, what));
      }
      default:
        return same("areAlike(" + t + ", " + t2 + ")", () -> real.areAlike(t, t2), () -> naive.areAlike(t, t2));
    }
  }

  private boolean callOfPlaces() {
    int t = tree();
    int n = nameIn(t);
    int t2 = tree(false);
    int n2 = random.nextInt(3) == 0 && t != t2 ? n : nameIn(t2);
    int at = place();
    int to = random.nextInt(3) == 0 ? at : place();
    switch (random.nextInt(12)) {
      case 0: case 1: case 2: case 3: case 4: case 5: {
        int many = many(4);
        int value = wrong() ? random.nextInt(1100) - 50 : random.nextInt(values);
        int step = wrong() ? random.nextInt(2100) - 1050 : random.nextInt(3) - (value > 3 ? 1 : 0);
        int near = fitting(at, many);
        return same("write(" + t2 + ", " + n2 + ", " + near + ", " + many + ", " + value + ", " + step + ")",
            () -> real.write(t2, n2, near, many, value, step), () -> naive.write(t2, n2, near, many, value, step));
      }
      case 6: {
        int many = random.nextInt(3) == 0 ? many(16) : many(5);
        int fit = fitting(at, many);
        return same("punch(" + t2 + ", " + n2 + ", " + fit + ", " + many + ")", () -> real.punch(t2, n2, fit, many),
            () -> naive.punch(t2, n2, fit, many));
      }
      case 7: case 8: {
        int many = random.nextInt(3) == 0 ? many(16) : many(5);
        int from = fitting(at, many);
        int onto = fitting(to, many);
        return same("clone(" + t + ", " + n + ", " + from + ", " + many + ", " + t2 + ", " + n2 + ", " + onto + ")",
            () -> real.clone(t, n, from, many, t2, n2, onto), () -> naive.clone(t, n, from, many, t2, n2, onto));
      }
      case 9: case 10: {
        int many = random.nextInt(3) == 0 ? many(16) : many(3);
        int from = fitting(at, many);
        int onto = fitting(to, many);
        return same("dedupe(" + t + ", " + n + ", " + from + ", " + many + ", " + t2 + ", " + n2 + ", " + onto + ")",
            () -> real.dedupe(t, n, from, many, t2, n2, onto), () -> naive.dedupe(t, n, from, many, t2, n2, onto));
      }
      default:
        return same("defragment(" + t2 + ", " + n2 + ")", () -> real.defragment(t2, n2), () -> naive.defragment(t2, n2));
    }
  }

  private boolean callOfTrees() {
    int t = tree();
    int n = nameIn(t);
    switch (random.nextInt(12)) {
      case 0: case 1: case 2: {
        boolean snapshot = random.nextInt(3) != 0;
        return same("branch(" + t + ", " + snapshot + ")", () -> real.branch(t, snapshot), () -> naive.branch(t, snapshot));
      }
      case 3: case 9: case 10:
        return same("drop(" + t + ")", () -> real.drop(t), () -> naive.drop(t));
      case 4: case 5: {
        int refers = wrong() ? random.nextInt(1100) - 50 : random.nextInt(3) == 0 ? random.nextInt(60) : 1000;
        int own = wrong() ? random.nextInt(1100) - 50 : random.nextInt(3) == 0 ? random.nextInt(40) : 1000;
        return same("limits(" + t + ", " + refers + ", " + own + ")", () -> {
          real.limits(t, refers, own);
          return 0;
        }, () -> {
          naive.limits(t, refers, own);
          return 0;
        });
      }
      case 6:
        return same("commit()", () -> real.commit(), () -> naive.commit());
      case 7: case 8:
        return same("log(" + t + ", " + n + ")", () -> real.log(t, n), () -> naive.log(t, n));
      default:
        return random.nextInt(2) == 0 || same("crash()", () -> real.crash(), () -> naive.crash());
    }
  }

  private boolean callOfSending() {
    int t = tree(true);
    int t2 = tree(true);
    switch (random.nextInt(3)) {
      case 0:
        return same("send(" + t + ", " + t2 + ")", () -> real.send(t, t2), () -> naive.send(t, t2));
      default:
        return same("receive(" + t + ")", () -> real.receive(t), () -> naive.receive(t));
    }
  }

  private boolean callOfDisks() {
    int t = tree();
    int n = nameIn(t);
    int at = place();
    switch (random.nextInt(6)) {
      case 0: {
        int p = wrong() ? random.nextInt(5) - 2 : random.nextInt(2);
        return same("profile(" + p + ")", () -> real.profile(p), () -> naive.profile(p));
      }
      case 1: {
        int p = wrong() ? random.nextInt(5) - 2 : random.nextInt(2);
        return random.nextInt(3) > 0 || same("balance(" + p + ")", () -> real.balance(p), () -> naive.balance(p));
      }
      case 2: case 3: case 4: {
        int d = wrong() ? random.nextInt(5) - 2 : random.nextInt(2);
        return kind == 1 || same("damage(" + d + ", " + t + ", " + n + ", " + at + ")", () -> real.damage(d, t, n, at),
            () -> naive.damage(d, t, n, at));
      }
      default:
        return random.nextInt(3) > 0 || same("scrub()", () -> real.scrub(), () -> naive.scrub());
    }
  }

  /** All that is asked here changes nothing. */
  private boolean look() {
    int size = told.size();
    boolean good = same("copied()", () -> real.copied(), () -> naive.copied)
        && same("mended()", () -> real.mended(), () -> naive.mended);
    for (int disk = 0; disk < 2 && good; disk++) {
      int d = disk;
      good = same("free(" + d + ")", () -> real.free(d), () -> naive.free(d))
          && same("freeAnew(" + d + ")", () -> real.freeAnew(d), () -> naive.free(d));
    }
    for (int tree = 0; tree < 6 && good; tree++) {
      int t = tree;
      for (int what = 0; what < 4 && good; what++) {
        int w = what;
        good = same("ofTree(" + t + ", " + w + ")", () -> real.ofTree(t, w), () -> naive.ofTree(t, w));
      }
    }
    if (good) {
      told.subList(size, told.size()).clear();
    }
    return good;
  }

  private boolean lookAtFiles() {
    int size = told.size();
    boolean good = true;
    for (int t : naive.live.keySet()) {
      for (int u = 0; u < 6 && good; u++) {
        int v = u;
        good = same("areAlike(" + t + ", " + v + ")", () -> real.areAlike(t, v), () -> naive.areAlike(t, v));
      }
      for (int name = 0; name < 10 && good; name++) {
        int n = name;
        good = same("file(" + t + ", " + n + ")", () -> real.file(t, n), () -> naive.file(t, n))
            && same("ofFile(" + t + ", " + n + ", 0)", () -> real.ofFile(t, n, 0), () -> naive.ofFile(t, n, 0))
            && same("ofFile(" + t + ", " + n + ", 1)", () -> real.ofFile(t, n, 1), () -> naive.ofFile(t, n, 1));
        for (int place = 0; place < 16 && good && naive.live.get(t).root.names.containsKey(n); place++) {
          int p = place;
          good = same("references(" + t + ", " + n + ", " + p + ")", () -> real.references(t, n, p), () -> naive.references(t, n, p));
        }
      }
    }
    if (good) {
      told.subList(size, told.size()).clear();
    }
    return good;
  }

  private boolean readAll() {
    boolean good = true;
    for (int t : naive.live.keySet()) {
      for (int n : naive.live.get(t).root.names.keySet()) {
        for (int place = 0; place < 16 && good; place++) {
          int p = place;
          good = same("read(" + t + ", " + n + ", " + p + ")", () -> real.read(t, n, p), () -> naive.read(t, n, p));
        }
      }
    }
    return good;
  }

  private boolean isAsDue() {
    for (int i = 0; i < 512; i++) {
      if (!call() || !look() || i % 16 == 15 && !lookAtFiles()) {
        return false;
      }
    }
    return readAll() && look();
  }

  public static void main(String[] args) {
    int runs = args.length > 0 ? Integer.parseInt(args[0]) : 400;
    for (int seed = 1; seed <= runs && failed == 0; seed++) {
      if (new RandomRuns(seed).isAsDue()) {
        passed++;
      } else {
        failed++;
        System.out.println("(run of the seed " + seed + ")");
      }
    }
    System.out.println("RandomRuns: " + passed + " passed, " + failed + " failed");
    if (failed > 0) {
      System.exit(1);
    }
  }
}
