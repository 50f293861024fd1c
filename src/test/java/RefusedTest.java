import java.util.ArrayList;
import java.util.HashMap;
import java.util.List;
import java.util.Map;

/**
 * Each call with each of its arguments at its least and its greatest value, next to these on both sides, and at the ends
 * of int: alone, and with two of them wrong at once, where the exception is due that is documented first. What was
 * refused must not show in any later call: later answers are held against those of an object that was not asked for it.
 */
public final class RefusedTest {
  private static final int LEAST = Integer.MIN_VALUE;
  private static final int MOST = Integer.MAX_VALUE;
  private static final int KINDS = 5;
  private static final int NONE_DIFFERS = -1;
  private static final Check check = new Check("RefusedTest");

  interface Scene {
    Treebark make();
  }

  interface Call {
    Object on(Treebark x, int[] a);
  }

  /** What is due: of several the first one that applies, as every call documents them in this order. */
  enum Due {
    OUTSIDE(IndexOutOfBoundsException.class), ARGUMENT(IllegalArgumentException.class), STATE(IllegalStateException.class),
    ANSWER(null);

    final Class<?> thrown;

    Due(Class<?> thrown) {
      this.thrown = thrown;
    }

    Due or(Due other) {
      return ordinal() < other.ordinal() ? this : other;
    }
  }

  record Choice(Due due, int[] values) {
  }

  /** Arguments that belong together, and what they can be. */
  static final class Group {
    final int[] at;
    final List<Choice> good = new ArrayList<>();
    final List<Choice> wrong = new ArrayList<>();

    Group(int... at) {
      this.at = at;
    }

    private Group add(Due due, int... values) {
      for (int i = 0; i < values.length; i += at.length) {
        int[] some = new int[at.length];
        System.arraycopy(values, i, some, 0, at.length);
        (due == Due.ANSWER ? good : wrong).add(new Choice(due, some));
      }
      return this;
    }

    Group good(int... values) {
      return add(Due.ANSWER, values);
    }

    Group outside(int... values) {
      return add(Due.OUTSIDE, values);
    }

    Group argument(int... values) {
      return add(Due.ARGUMENT, values);
    }

    Group state(int... values) {
      return add(Due.STATE, values);
    }

    void put(Choice choice, int[] arguments) {
      for (int i = 0; i < at.length; i++) {
        arguments[at[i]] = choice.values[i];
      }
    }
  }

  /** One call in one scene, which may refuse it by itself (such as a full disk). */
  static final class Plan {
    final Scene scene;
    final String name;
    final Due atBest;
    final Call call;
    final Group[] groups;
    final Map<Integer, List<Object>> laterDue = new HashMap<>();

    Plan(Scene scene, String name, Due atBest, Call call, Group... groups) {
      this.scene = scene;
      this.name = name;
      this.atBest = atBest;
      this.call = call;
      this.groups = groups;
      check.promise(name);
      tryGood(0, new int[7]);
      tryWrong();
    }

    private void tryGood(int group, int[] arguments) {
      if (group == groups.length) {
        ask(atBest, arguments);
        return;
      }
      for (Choice choice : groups[group].good) {
        groups[group].put(choice, arguments);
        tryGood(group + 1, arguments);
      }
    }

    private int[] firstGood() {
      int[] arguments = new int[7];
      for (Group group : groups) {
        group.put(group.good.get(0), arguments);
      }
      return arguments;
    }

    private void tryWrong() {
      for (int i = 0; i < groups.length; i++) {
        for (Choice one : groups[i].wrong) {
          int[] arguments = firstGood();
          groups[i].put(one, arguments);
          ask(atBest.or(one.due), arguments);
          for (int j = i + 1; j < groups.length; j++) {
            for (Choice other : groups[j].wrong) {
              groups[j].put(other, arguments);
              ask(atBest.or(one.due).or(other.due), arguments);
            }
            groups[j].put(groups[j].good.get(0), arguments);
          }
        }
      }
    }

    private String told(int[] arguments) {
      int count = 0;
      for (Group group : groups) {
        for (int at : group.at) {
          count = Math.max(count, at + 1);
        }
      }
      StringBuilder text = new StringBuilder(name).append('(');
      for (int i = 0; i < count; i++) {
        text.append(i == 0 ? "" : ", ").append(arguments[i]);
      }
      return text.append(')').toString();
    }

    private void ask(Due due, int[] arguments) {
      if (due == Due.ANSWER) {
        Object got = answer(() -> call.on(scene.make(), arguments));
        check.due(told(arguments) + " is answered", true, !(got instanceof Class));
        return;
      }
      for (int kind = 0; kind < KINDS; kind++) {
        Treebark x = scene.make();
        check.due(told(arguments), due.thrown, answer(() -> call.on(x, arguments)));
        if (!laterDue.containsKey(kind)) {
          laterDue.put(kind, later(scene.make(), kind));
        }
        check.due("the first later answer of the kind " + kind + " that is another one behind " + told(arguments), NONE_DIFFERS,
            firstDifference(laterDue.get(kind), later(x, kind)));
      }
    }
  }

  private static int firstDifference(List<Object> due, List<Object> got) {
    for (int i = 0; i < Math.max(due.size(), got.size()); i++) {
      if (i >= due.size() || i >= got.size() || !due.get(i).equals(got.get(i))) {
        return i;
      }
    }
    return NONE_DIFFERS;
  }

  static Object answer(Check.Call call) {
    try {
      return call.run();
    } catch (RuntimeException e) {
      return e.getClass();
    }
  }

  // ---- later calls

  /** What many later calls answer: at once, behind a crash, a commit and a crash, what was sent, or a balance. */
  private static List<Object> later(Treebark x, int kind) {
    List<Object> seen = new ArrayList<>();
    if (kind == 1) {
      seen.add(x.crash());
    } else if (kind == 2) {
      seen.add(x.commit());
      seen.add(x.crash());
    } else if (kind == 3) {
      seen.add(answer(() -> x.drop(2)));
      seen.add(answer(() -> x.receive(1)));
    } else if (kind == 4) {
      seen.add(x.balance(Treebark.MIRROR));
    }
    for (int tree = 0; tree < 6; tree++) {
      int t = tree;
      if (!(answer(() -> x.ofTree(t, 0)) instanceof Class)) {
        lookAt(x, t, seen);
      }
    }
    seen.addAll(List.of(x.copied(), x.mended(), x.free(0), x.free(1), x.freeAnew(0), x.freeAnew(1)));
    writeOn(x, seen);
    seen.addAll(List.of(x.scrub(), x.profile(Treebark.SINGLE), x.copied(), x.mended(), x.free(0), x.free(1)));
    return seen;
  }

  private static void lookAt(Treebark x, int tree, List<Object> seen) {
    for (int what = 0; what < 4; what++) {
      seen.add(x.ofTree(tree, what));
    }
    seen.add(answer(() -> x.areAlike(0, tree)));
    for (int name = 0; name < 10; name++) {
      if ((x.ofTree(tree, 0) & 1 << name) == 0) {
        continue;
      }
      seen.add(x.file(tree, name));
      seen.add(x.ofFile(tree, name, 0));
      seen.add(x.ofFile(tree, name, 1));
      seen.add(x.references(tree, name, 2));
      for (int at = 0; at < 16; at++) {
        seen.add(x.read(tree, name, at));
      }
    }
  }

  /** Numbers of new files, limits, and the log. */
  private static void writeOn(Treebark x, List<Object> seen) {
    for (int tree = 0; tree < 3; tree++) {
      int t = tree;
      seen.add(answer(() -> x.create(t, 7)));
      for (int at = 0; at < 16; at += 4) {
        int a = at;
        seen.add(answer(() -> x.write(t, 7, a, 4, a, 1)));
      }
      seen.add(answer(() -> x.log(t, 7)));
      seen.add(answer(() -> x.branch(t, true)));
    }
  }

  // ---- scenes

  /**
   * The trees 0 and 2 are to be written, 1 and 4 are SNAPSHOTS, 3 was dropped. The names 0, 4 and 9 are of files, the
   * latter ones of the same; some copies are bad, two files are logged, and something was sent.
   */
  private static Treebark scene() {
    Treebark x = new Treebark();
    x.create(0, 0);
    x.create(0, 9);
    x.link(0, 9, 4);
    x.write(0, 0, 0, 4, 10, 1);
    x.profile(Treebark.MIRROR);
    x.write(0, 9, 12, 4, 20, 1);
    x.branch(0, true);
    x.branch(0, false);
    x.branch(0, false);
    x.write(2, 9, 0, 2, 50, 0);
    x.commit();
    x.write(0, 0, 2, 3, 30, 1);
    x.write(0, 9, 2, 2, 0, 0);
    x.branch(0, true);
    x.drop(3);
    x.send(1, 4);
    x.log(0, 0);
    x.log(2, 9);
    x.write(2, 0, 8, 4, 40, 0);
    x.write(0, 0, 15, 1, 60, 0);
    x.limits(0, 40, 20);
    x.limits(2, 30, 24);
    x.damage(0, 0, 9, 12);
    x.damage(1, 0, 0, 2);
    x.profile(Treebark.SINGLE);
    return x;
  }

  /** The same with files of the names 1, 4 and 8, so that the least and the greatest one are of none. */
  private static Treebark sceneOfNames() {
    Treebark x = scene();
    for (int tree = 0; tree < 3; tree += 2) {
      x.rename(tree, 0, 1, false);
      x.rename(tree, 9, 8, false);
    }
    return x;
  }

  private static Treebark sceneWithSix() {
    Treebark x = scene();
    x.branch(1, true);
    x.branch(4, false);
    return x;
  }

  private static Treebark sceneWithNothingSent() {
    Treebark x = new Treebark();
    x.create(0, 0);
    x.write(0, 0, 0, 4, 10, 1);
    x.branch(0, true);
    x.write(0, 0, 0, 4, 20, 1);
    x.branch(0, false);
    return x;
  }

  /** No block is left; the file 0 is in the SNAPSHOT 1, too. */
  private static Treebark sceneThatIsFull() {
    Treebark x = scene();
    x.limits(0, 1000, 1000);
    for (int name = 5; x.free(0) + x.free(1) > 0; name++) {
      x.create(0, name);
      for (int at = 0; at < 16 && x.free(0) + x.free(1) > 0; at += 4) {
        boolean isRoom = Math.max(x.free(0), x.free(1)) >= 4;
        x.write(0, name, at, isRoom ? 4 : 1, 70 + at, isRoom ? 1 : 0);
      }
    }
    return x;
  }

  /** Each tree has reached both of its limits. */
  private static Treebark sceneThatIsLimited() {
    Treebark x = scene();
    x.write(2, 0, 0, 1, 10, 0);
    x.limits(0, x.ofTree(0, 1), x.ofTree(0, 2));
    x.limits(2, x.ofTree(2, 1), 1000);
    return x;
  }

  /** Cells of the tree 2 read as those of the other ones, but are of extents of their own, and a limit is reached. */
  private static Treebark sceneOfTwoAlike() {
    Treebark x = new Treebark();
    x.create(0, 0);
    x.create(0, 9);
    x.write(0, 0, 12, 4, 10, 1);
    x.write(0, 9, 12, 4, 10, 1);
    x.branch(0, true);
    x.branch(0, false);
    x.send(1, 1);
    x.commit();
    x.write(2, 0, 12, 4, 10, 1);
    x.write(2, 9, 12, 4, 10, 1);
    x.limits(2, 8, 1000);
    return x;
  }

  /** The file 0 has a LOST cell in the trees 0 and 4, but not in the tree 1. */
  private static Treebark sceneWithLost() {
    Treebark x = scene();
    x.damage(0, 0, 0, 2);
    return x;
  }

  // ---- arguments

  private static Group anyTree(int at) {
    return noTree(new Group(at).good(0, 1, 2, 4));
  }

  private static Group writableTree(int at) {
    return noTree(new Group(at).good(0, 2).state(1, 4));
  }

  private static Group snapshot(int at) {
    return noTree(new Group(at).good(1, 4).state(0, 2));
  }

  private static Group noTree(Group group) {
    return group.outside(-1, 3, 5, 6, LEAST, MOST);
  }

  private static Group noName(Group group) {
    return group.outside(-1, 10, LEAST, MOST);
  }

  private static Group nameOfFile(int at) {
    return noName(new Group(at).good(0, 9).state(1, 8));
  }

  private static Group place(int at) {
    return new Group(at).good(0, 15).outside(-1, 16, LEAST, MOST);
  }

  private static Group what(int at, int most) {
    return new Group(at).good(0, most).argument(-1, most + 1, LEAST, MOST);
  }

  private static Group profile() {
    return new Group(0).good(0, 1).argument(-1, 2, LEAST, MOST);
  }

  private static Group disk(int at) {
    return new Group(at).good(0, 1).outside(-1, 2, LEAST, MOST);
  }

  /** The first place, how many, the value, the step. */
  private static Group cells() {
    return new Group(2, 3, 4, 5)
        .good(0, 1, 0, 0, 15, 1, 999, 999, 12, 4, 0, 333, 12, 4, 999, -333, 0, 4, 996, 1, 14, 2, 0, 999, 14, 2, 999, -999,
            0, 1, 5, -999, 13, 3, 998, -499)
        .outside(-1, 1, 5, 0, 16, 1, 5, 0, LEAST, 1, 5, 0, MOST, 1, 5, 0, MOST, 4, 5, 0, 13, 4, 5, 0, 14, 3, 5, 0, 15, 2, 5, 0,
            -1, 0, 5, 0, 16, 5, 5, 0, 16, 1, 1000, 0, 13, 4, -1, 0, 15, 2, 5, 1000, LEAST, LEAST, 5, 0, MOST, MOST, 5, 0)
        .argument(0, 0, 5, 0, 0, 5, 5, 0, 15, 0, 5, 0, 15, 5, 5, 0, 12, 5, 5, 0, 0, -1, 5, 0, 0, LEAST, 5, 0, 0, MOST, 5, 0,
            15, MOST, 5, 0)
        .argument(0, 1, -1, 0, 0, 1, 1000, 0, 0, 1, LEAST, 0, 0, 1, MOST, 0, 0, 2, -1, 1, 0, 2, 1000, -1)
        .argument(0, 1, 5, -1000, 0, 1, 5, 1000, 0, 1, 5, LEAST, 0, 1, 5, MOST, 0, 4, 5, LEAST, 0, 4, 5, MOST, 0, 3, 5, LEAST)
        .argument(0, 2, 0, -1, 0, 2, 999, 1, 0, 3, 1, -1, 0, 3, 998, 1, 0, 4, 2, -1, 0, 4, 997, 1, 0, 4, 0, 334, 0, 4, 999, -334,
            0, 2, 1, 999, 0, 2, 998, -999);
  }

  /** The first place, how many. */
  private static Group places() {
    return new Group(2, 3)
        .good(0, 1, 0, 16, 15, 1, 1, 15)
        .outside(-1, 1, 16, 1, LEAST, 1, MOST, 1, MOST, 16, 1, 16, 2, 15, 15, 2, 15, 16, -1, 0, 16, 17, -1, 16, LEAST, LEAST,
            MOST, MOST)
        .argument(0, 0, 0, 17, 15, 17, 15, 0, 0, -1, 0, LEAST, 0, MOST, 15, MOST, 15, LEAST);
  }

  /** The first place, how many, the first place there. */
  private static Group bothPlaces() {
    return new Group(2, 3, 6)
        .good(12, 4, 12, 0, 1, 15, 15, 1, 0, 0, 16, 0)
        .outside(-1, 1, 0, 16, 1, 0, 0, 1, -1, 0, 1, 16, LEAST, 1, 0, MOST, 1, 0, 0, 1, LEAST, 0, 1, MOST, 1, 16, 0, 0, 16, 1,
            15, 2, 0, 0, 2, 15, 13, 4, 0, 0, 4, 13, 16, 0, 0, 0, 17, 16, -1, 17, 0, 0, 0, -1, 0, MOST, MOST)
        .argument(0, 0, 0, 0, 17, 0, 15, 17, 0, 0, 17, 15, 0, -1, 0, 15, 0, 15, 0, LEAST, 0, 15, MOST, 15);
  }

  private static Group bothLimits() {
    return new Group(1, 2).good(0, 0, 1000, 1000, 0, 1000, 1000, 0)
        .argument(-1, 0, 1001, 0, 0, -1, 0, 1001, LEAST, 0, MOST, 0, 0, LEAST, 0, MOST, -1, 1001);
  }

  // ---- the calls

  private static void names() {
    Group free = noName(new Group(1).good(0, 9).state(1, 4, 8));
    new Plan(RefusedTest::sceneOfNames, "create", Due.ANSWER, (x, a) -> x.create(a[0], a[1]), writableTree(0), free);
    new Plan(RefusedTest::sceneOfNames, "link", Due.ANSWER, (x, a) -> x.link(a[0], a[1], a[2]), writableTree(0),
        noName(new Group(1).good(1, 4, 8).state(0, 9)), noName(new Group(2).good(0, 9).state(1, 4, 8)));
    new Plan(RefusedTest::scene, "link", Due.STATE, (x, a) -> x.link(a[0], a[1], a[2]), writableTree(0), nameOfFile(1),
        noName(new Group(2).good(0, 4, 9)));
    new Plan(RefusedTest::scene, "unlink", Due.ANSWER, (x, a) -> x.unlink(a[0], a[1]), writableTree(0), nameOfFile(1));
    Group onto = noName(new Group(2).good(0, 9, 1, 8));
    new Plan(RefusedTest::scene, "rename", Due.ANSWER, (x, a) -> {
      x.rename(a[0], a[1], a[2], false);
      return 0;
    }, writableTree(0), nameOfFile(1), onto);
    new Plan(RefusedTest::scene, "rename, exchanging", Due.ANSWER, (x, a) -> {
      x.rename(a[0], a[1], a[2], true);
      return 0;
    }, writableTree(0), nameOfFile(1), nameOfFile(2));
    new Plan(RefusedTest::scene, "file", Due.ANSWER, (x, a) -> x.file(a[0], a[1]), anyTree(0), noName(new Group(1).good(0, 9, 5)));
  }

  private static void changesOfPlaces() {
    new Plan(RefusedTest::scene, "write", Due.ANSWER, RefusedTest::write, writableTree(0), nameOfFile(1), cells());
    new Plan(RefusedTest::scene, "punch", Due.ANSWER, (x, a) -> x.punch(a[0], a[1], a[2], a[3]), writableTree(0), nameOfFile(1),
        places());
    new Plan(RefusedTest::scene, "clone", Due.ANSWER, RefusedTest::clone, anyTree(0), nameOfFile(1), bothPlaces(), writableTree(4),
        nameOfFile(5));
    new Plan(RefusedTest::scene, "dedupe", Due.ANSWER, RefusedTest::dedupe, anyTree(0), nameOfFile(1), bothPlaces(),
        writableTree(4), nameOfFile(5));
    new Plan(RefusedTest::scene, "defragment", Due.ANSWER, (x, a) -> x.defragment(a[0], a[1]), writableTree(0), nameOfFile(1));
  }

  private static Object write(Treebark x, int[] a) {
    return x.write(a[0], a[1], a[2], a[3], a[4], a[5]);
  }

  private static Object clone(Treebark x, int[] a) {
    return x.clone(a[0], a[1], a[2], a[3], a[4], a[5], a[6]);
  }

  private static Object dedupe(Treebark x, int[] a) {
    return x.dedupe(a[0], a[1], a[2], a[3], a[4], a[5], a[6]);
  }

  private static void looksAtPlaces() {
    new Plan(RefusedTest::scene, "read", Due.ANSWER, (x, a) -> x.read(a[0], a[1], a[2]), anyTree(0), nameOfFile(1), place(2));
    new Plan(RefusedTest::scene, "ofFile", Due.ANSWER, (x, a) -> x.ofFile(a[0], a[1], a[2]), anyTree(0), nameOfFile(1), what(2, 2));
    new Plan(RefusedTest::scene, "references", Due.ANSWER, (x, a) -> x.references(a[0], a[1], a[2]), anyTree(0), nameOfFile(1),
        place(2));
    new Plan(RefusedTest::scene, "damage", Due.ANSWER, (x, a) -> x.damage(a[0], a[1], a[2], a[3]), disk(0), anyTree(1),
        nameOfFile(2), place(3));
  }

  private static void trees() {
    for (boolean snapshot : new boolean[] {false, true}) {
      Call branch = (x, a) -> x.branch(a[0], snapshot);
      new Plan(RefusedTest::scene, "branch", Due.ANSWER, branch, anyTree(0));
      new Plan(RefusedTest::sceneWithSix, "branch with 6 trees", Due.STATE, branch,
          new Group(0).good(0, 1, 2, 3, 4, 5).outside(-1, 6, LEAST, MOST));
    }
    new Plan(RefusedTest::scene, "drop", Due.ANSWER, (x, a) -> x.drop(a[0]), noTree(new Group(0).good(1, 2, 4).state(0)));
    new Plan(RefusedTest::scene, "limits", Due.ANSWER, (x, a) -> {
      x.limits(a[0], a[1], a[2]);
      return 0;
    }, anyTree(0), bothLimits());
    new Plan(RefusedTest::scene, "ofTree", Due.ANSWER, (x, a) -> x.ofTree(a[0], a[1]), anyTree(0), what(1, 3));
    new Plan(RefusedTest::scene, "areAlike", Due.ANSWER, (x, a) -> x.areAlike(a[0], a[1]), anyTree(0), anyTree(1));
  }

  private static void commitsAndSending() {
    new Plan(RefusedTest::scene, "log", Due.ANSWER, (x, a) -> x.log(a[0], a[1]), anyTree(0), nameOfFile(1));
    new Plan(RefusedTest::scene, "send", Due.ANSWER, (x, a) -> x.send(a[0], a[1]), snapshot(0), snapshot(1));
    Call receive = (x, a) -> x.receive(a[0]);
    new Plan(RefusedTest::scene, "receive", Due.ANSWER, receive, snapshot(0));
    new Plan(RefusedTest::sceneWithSix, "receive with 6 trees", Due.STATE, receive,
        new Group(0).good(0, 1, 2, 3, 4, 5).outside(-1, 6, LEAST, MOST));
    new Plan(RefusedTest::sceneWithNothingSent, "receive with nothing sent", Due.STATE, receive,
        new Group(0).good(0, 1, 2).outside(-1, 3, 5, 6, LEAST, MOST));
    new Plan(RefusedTest::sceneThatIsFull, "receive with full disks", Due.STATE, receive, snapshot(0));
    new Plan(RefusedTest::sceneWithLost, "send of what is LOST", Due.STATE, (x, a) -> x.send(a[0], a[1]),
        noTree(new Group(0).good(1).state(0, 2)), noTree(new Group(1).good(4).state(0, 2)));
    new Plan(RefusedTest::sceneWithLost, "send of what is not", Due.ANSWER, (x, a) -> x.send(a[0], a[1]),
        new Group(0).good(1, 4), new Group(1).good(1));
    new Plan(RefusedTest::sceneWithLost, "send of the same", Due.ANSWER, (x, a) -> x.send(4, 4));
  }

  private static void disks() {
    new Plan(RefusedTest::scene, "profile", Due.ANSWER, (x, a) -> x.profile(a[0]), profile());
    new Plan(RefusedTest::scene, "balance", Due.ANSWER, (x, a) -> x.balance(a[0]), profile());
    new Plan(RefusedTest::scene, "free", Due.ANSWER, (x, a) -> x.free(a[0]), disk(0));
    new Plan(RefusedTest::scene, "freeAnew", Due.ANSWER, (x, a) -> x.freeAnew(a[0]), disk(0));
  }

  private static void whatIsFullLimitedOrLost() {
    Call defragment = (x, a) -> x.defragment(a[0], a[1]);
    new Plan(RefusedTest::sceneThatIsFull, "write on full disks", Due.STATE, RefusedTest::write, writableTree(0), nameOfFile(1),
        cells());
    new Plan(RefusedTest::sceneThatIsFull, "defragment on full disks", Due.STATE, defragment, writableTree(0), nameOfFile(1));
    Group last = new Group(2, 3, 6).good(0, 1, 15, 3, 1, 15).outside(0, 2, 15, 16, 1, 15, 0, 1, 16).argument(0, 0, 15, 0, 17, 15);
    new Plan(RefusedTest::sceneThatIsFull, "clone on full disks", Due.ANSWER, RefusedTest::clone, anyTree(0),
        noName(new Group(1).good(0, 9).state(1)), last, noTree(new Group(4).good(0).state(1, 4)),
        noName(new Group(5).good(0, 9).state(1)));
    new Plan(RefusedTest::sceneThatIsLimited, "write above a limit", Due.STATE, RefusedTest::write,
        noTree(new Group(0).good(0).state(1, 2, 4)), nameOfFile(1),
        new Group(2, 3, 4, 5).good(7, 2, 1, 1, 8, 4, 7, 0).outside(16, 1, 1, 1, 13, 4, 1, 1).argument(7, 5, 1, 1, 7, 1, 1000, 1));
    new Plan(RefusedTest::sceneThatIsLimited, "clone above a limit", Due.STATE, RefusedTest::clone, new Group(0).good(2),
        new Group(1).good(0).state(1), new Group(2, 3, 6).good(8, 1, 8, 9, 3, 8).outside(16, 1, 8, 8, 1, 16).argument(8, 0, 8, 8, 17, 8),
        noTree(new Group(4).good(0).state(1, 4)), nameOfFile(5));
    new Plan(RefusedTest::sceneOfTwoAlike, "dedupe above a limit", Due.STATE, RefusedTest::dedupe, noTree(new Group(0).good(0)),
        nameOfFile(1), new Group(2, 3, 6).good(12, 1, 12, 13, 3, 13).outside(16, 1, 12, 12, 1, 16).argument(12, 0, 12, 12, 17, 12),
        noTree(new Group(4).good(2).state(1)), nameOfFile(5));
    new Plan(RefusedTest::sceneOfTwoAlike, "dedupe of what is not alike", Due.ANSWER, RefusedTest::dedupe, new Group(0).good(0, 1),
        new Group(1).good(0, 9), new Group(2, 3, 6).good(12, 2, 13, 0, 1, 0, 11, 2, 11), new Group(4).good(2),
        new Group(5).good(0, 9));
    new Plan(RefusedTest::sceneWithLost, "defragment of what is LOST", Due.STATE, defragment,
        noTree(new Group(0).good(0).state(1, 4)), noName(new Group(1).good(0).state(1, 8)));
  }

  public static void main(String[] args) {
    names();
    changesOfPlaces();
    looksAtPlaces();
    trees();
    commitsAndSending();
    disks();
    whatIsFullLimitedOrLost();
    check.end();
  }
}
