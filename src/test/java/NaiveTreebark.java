import java.util.ArrayList;
import java.util.HashMap;
import java.util.IdentityHashMap;
import java.util.List;
import java.util.Map;
import java.util.Set;
import java.util.Collections;
import java.util.TreeMap;

/**
 * The document told a second time, as plainly as can be: nothing is counted or kept beside, all is found by
 * walking. RandomRuns holds the program against it.
 */
final class NaiveTreebark {
  static final class Ext {
    int[] cells;
    int blocks;
    boolean[] on = new boolean[2];
    boolean[] bad = new boolean[2];

    boolean good(int d) {
      return on[d] && !bad[d];
    }

    int valueOf(int cell) {
      return good(0) || good(1) ? cells[cell] : -2;
    }
  }

  record Cell(Ext ext, int index) {
    boolean same(Cell other) {
      return other != null && ext == other.ext && index == other.index;
    }
  }

  static final class FileNode {
    final int number;
    final Cell[] places = new Cell[16];

    FileNode(int number) {
      this.number = number;
    }
  }

  static final class RootNode {
    final TreeMap<Integer, FileNode> names = new TreeMap<>();
  }

  static final class OneTree {
    RootNode root;
    boolean snapshot;
    int refers = 1000;
    int own = 1000;

    OneTree like() {
      OneTree t = new OneTree();
      t.root = root;
      t.snapshot = snapshot;
      t.refers = refers;
      t.own = own;
      return t;
    }
  }

  record Entry(int tree, int number, List<Integer> names, Cell[] places) {
  }

  static final class SentFile {
    List<Integer> names = new ArrayList<>();
    Integer lowest;
    Map<Integer, Integer> places = new TreeMap<>(); // -1: a hole
  }

  TreeMap<Integer, OneTree> live = new TreeMap<>();
  TreeMap<Integer, OneTree> kept = new TreeMap<>();
  List<Entry> log = new ArrayList<>();
  List<SentFile> sent = null;
  List<Ext> made = new ArrayList<>();
  int files = 0;
  int profile = 0;
  int copied = 0;
  int mended = 0;

  NaiveTreebark() {
    OneTree t = new OneTree();
    t.root = new RootNode();
    live.put(0, t);
    kept.put(0, t.like());
  }

  // ---- finding by walking

  static void collect(Iterable<OneTree> trees, Set<Ext> into) {
    for (OneTree t : trees) {
      for (FileNode f : t.root.names.values()) {
        collect(f.places, into);
      }
    }
  }

  static void collect(Cell[] places, Set<Ext> into) {
    for (Cell c : places) {
      if (c != null) {
        into.add(c.ext());
      }
    }
  }

  static Set<Ext> fresh() {
    return Collections.newSetFromMap(new IdentityHashMap<>());
  }

  List<Ext> inUse() {
    Set<Ext> used = fresh();
    collect(live.values(), used);
    collect(kept.values(), used);
    for (Entry e : log) {
      collect(e.places(), used);
    }
    List<Ext> ordered = new ArrayList<>();
    for (Ext e : made) {
      if (used.contains(e)) {
        ordered.add(e);
      }
    }
    return ordered;
  }

  int room(int disk, List<Ext> beside) {
    int room = 40;
    for (Ext e : inUse()) {
      room -= e.on[disk] ? e.blocks : 0;
    }
    for (Ext e : beside) {
      room -= e.on[disk] ? e.blocks : 0;
    }
    return room;
  }

  int[] weight(int tree, Map<Integer, OneTree> trees) {
    Set<Ext> mine = fresh();
    collect(List.of(trees.get(tree)), mine);
    Set<Ext> others = fresh();
    for (int n : trees.keySet()) {
      if (n != tree) {
        collect(List.of(trees.get(n)), others);
      }
    }
    int[] sums = new int[2];
    for (Ext e : mine) {
      int blocks = (e.on[0] ? e.blocks : 0) + (e.on[1] ? e.blocks : 0);
      sums[0] += blocks;
      sums[1] += others.contains(e) ? 0 : blocks;
    }
    return sums;
  }

  boolean rootElsewhere(int tree, RootNode root) {
    for (OneTree t : kept.values()) {
      if (t.root == root) {
        return true;
      }
    }
    for (int n : live.keySet()) {
      if (n != tree && live.get(n).root == root) {
        return true;
      }
    }
    return false;
  }

  boolean fileElsewhere(int tree, FileNode file) {
    for (OneTree t : kept.values()) {
      if (t.root.names.containsValue(file)) {
        return true;
      }
    }
    for (int n : live.keySet()) {
      if (n != tree && live.get(n).root.names.containsValue(file)) {
        return true;
      }
    }
    return false;
  }

  static List<Integer> namesOf(RootNode root, FileNode file) {
    List<Integer> names = new ArrayList<>();
    for (int n : root.names.keySet()) {
      if (root.names.get(n) == file) {
        names.add(n);
      }
    }
    return names;
  }

  // ---- changing

  RootNode rootToChange(int tree) {
    OneTree t = live.get(tree);
    if (rootElsewhere(tree, t.root)) {
      RootNode copy = new RootNode();
      copy.names.putAll(t.root.names);
      t.root = copy;
      copied++;
    }
    return t.root;
  }

  FileNode fileToChange(int tree, FileNode file) {
    if (!fileElsewhere(tree, file)) {
      return file;
    }
    RootNode root = rootToChange(tree);
    FileNode copy = new FileNode(file.number);
    System.arraycopy(file.places, 0, copy.places, 0, 16);
    for (int n : namesOf(root, file)) {
      root.names.put(n, copy);
    }
    copied++;
    return copy;
  }

  /** The places that a plan (a value, -1 a hole, null as it is) makes of others; null if a disk is full. */
  Cell[] planned(Cell[] places, Integer[] plan, List<Ext> beside) {
    Cell[] result = places.clone();
    int p = 0;
    while (p < 16) {
      if (plan[p] == null) {
        p++;
      } else if (plan[p] == -1) {
        result[p++] = null;
      } else {
        List<Integer> run = new ArrayList<>();
        while (p + run.size() < 16 && run.size() < 4 && plan[p + run.size()] != null && plan[p + run.size()] >= 0) {
          run.add(plan[p + run.size()]);
        }
        Ext e = make(run, beside);
        if (e == null) {
          return null;
        }
        beside.add(e);
        for (int i = 0; i < run.size(); i++) {
          result[p++] = new Cell(e, i);
        }
      }
    }
    return result;
  }

  Ext make(List<Integer> values, List<Ext> beside) {
    Ext e = new Ext();
    e.cells = values.stream().mapToInt(Integer::intValue).toArray();
    e.blocks = values.stream().distinct().count() == 1 ? 1 : values.size();
    int room0 = room(0, beside);
    int room1 = room(1, beside);
    if (profile == 1) {
      if (room0 < e.blocks || room1 < e.blocks) {
        return null;
      }
      e.on[0] = true;
      e.on[1] = true;
    } else {
      int disk = room0 >= room1 ? 0 : 1;
      if (Math.max(room0, room1) < e.blocks) {
        return null;
      }
      e.on[disk] = true;
    }
    made.add(e);
    return e;
  }

  boolean aboveLimits(int tree, FileNode file, Cell[] then) {
    int[] before = weight(tree, live);
    TreeMap<Integer, OneTree> after = new TreeMap<>(live);
    OneTree changed = live.get(tree).like();
    changed.root = new RootNode();
    changed.root.names.putAll(live.get(tree).root.names);
    FileNode copy = new FileNode(file.number);
    System.arraycopy(then, 0, copy.places, 0, 16);
    for (int n : namesOf(live.get(tree).root, file)) {
      changed.root.names.put(n, copy);
    }
    after.put(tree, changed);
    int[] behind = weight(tree, after);
    return behind[0] > changed.refers && behind[0] > before[0] || behind[1] > changed.own && behind[1] > before[1];
  }

  void tell(int tree, FileNode file, Cell[] then) {
    System.arraycopy(then, 0, fileToChange(tree, file).places, 0, 16);
  }

  // ---- arguments

  static void outside(boolean is) {
    if (is) {
      throw new IndexOutOfBoundsException();
    }
  }

  static void argument(boolean is) {
    if (is) {
      throw new IllegalArgumentException();
    }
  }

  static void state(boolean is) {
    if (is) {
      throw new IllegalStateException();
    }
  }

  OneTree tree(int tree) {
    outside(!live.containsKey(tree));
    return live.get(tree);
  }

  static void name(int name) {
    outside(name < 0 || name > 9);
  }

  static void run(int at, int many, int most) {
    outside(at < 0 || at > 15);
    outside(many >= 1 && many <= most && at + many > 16);
  }

  FileNode fileOf(int tree, int name) {
    FileNode f = live.get(tree).root.names.get(name);
    state(f == null);
    return f;
  }

  // ---- the calls

  int create(int tree, int name) {
    OneTree t = tree(tree);
    name(name);
    state(t.snapshot || t.root.names.containsKey(name));
    rootToChange(tree).names.put(name, new FileNode(files));
    return files++;
  }

  int link(int tree, int name, int other) {
    OneTree t = tree(tree);
    name(name);
    name(other);
    state(t.snapshot || !t.root.names.containsKey(name) || t.root.names.containsKey(other));
    FileNode f = t.root.names.get(name);
    rootToChange(tree).names.put(other, f);
    return namesOf(t.root, f).size();
  }

  int unlink(int tree, int name) {
    OneTree t = tree(tree);
    name(name);
    state(t.snapshot || !t.root.names.containsKey(name));
    FileNode f = rootToChange(tree).names.remove(name);
    return namesOf(t.root, f).size();
  }

  void rename(int tree, int name, int other, boolean exchanges) {
    OneTree t = tree(tree);
    name(name);
    name(other);
    FileNode f = t.root.names.get(name);
    FileNode o = t.root.names.get(other);
    state(t.snapshot || f == null || exchanges && o == null);
    if (f != o) {
      RootNode r = rootToChange(tree);
      r.names.put(other, f);
      if (exchanges) {
        r.names.put(name, o);
      } else {
        r.names.remove(name);
      }
    }
  }

  int file(int tree, int name) {
    OneTree t = tree(tree);
    name(name);
    return t.root.names.containsKey(name) ? t.root.names.get(name).number : -1;
  }

  int write(int tree, int name, int at, int many, int value, int step) {
    OneTree t = tree(tree);
    name(name);
    run(at, many, 4);
    argument(many < 1 || many > 4 || value < 0 || value > 999 || step < -999 || step > 999);
    long last = (long) value + (many - 1L) * step;
    argument(last < 0 || last > 999);
    state(t.snapshot);
    FileNode f = fileOf(tree, name);
    Integer[] plan = new Integer[16];
    for (int i = 0; i < many; i++) {
      plan[at + i] = value + i * step;
    }
    Cell[] then = planned(f.places, plan, new ArrayList<>());
    state(then == null || aboveLimits(tree, f, then));
    tell(tree, f, then);
    return then[at].ext().blocks;
  }

  int punch(int tree, int name, int at, int many) {
    OneTree t = tree(tree);
    name(name);
    run(at, many, 16);
    argument(many < 1 || many > 16);
    state(t.snapshot);
    FileNode f = fileOf(tree, name);
    Cell[] then = f.places.clone();
    int none = 0;
    for (int i = at; i < at + many; i++) {
      none += then[i] != null ? 1 : 0;
      then[i] = null;
    }
    tell(tree, f, then);
    return none;
  }

  Cell[] cloned(int tree, int name, int at, int many, int into, int other, int to) {
    tree(tree);
    tree(into);
    name(name);
    name(other);
    run(at, many, 16);
    run(to, many, 16);
    argument(many < 1 || many > 16);
    state(live.get(into).snapshot);
    FileNode f = fileOf(tree, name);
    Cell[] then = fileOf(into, other).places.clone();
    for (int i = 0; i < many; i++) {
      then[to + i] = f.places[at + i];
    }
    return then;
  }

  int clone(int tree, int name, int at, int many, int into, int other, int to) {
    Cell[] then = cloned(tree, name, at, many, into, other, to);
    FileNode o = fileOf(into, other);
    state(aboveLimits(into, o, then));
    tell(into, o, then);
    Set<Ext> mine = fresh();
    collect(fileOf(tree, name).places, mine);
    Set<Ext> others = fresh();
    collect(then, others);
    int both = 0;
    for (Ext e : others) {
      both += mine.contains(e) ? 1 : 0;
    }
    return both;
  }

  boolean dedupe(int tree, int name, int at, int many, int into, int other, int to) {
    Cell[] then = cloned(tree, name, at, many, into, other, to);
    FileNode f = fileOf(tree, name);
    FileNode o = fileOf(into, other);
    for (int i = 0; i < many; i++) {
      Cell a = f.places[at + i];
      Cell b = o.places[to + i];
      if (a == null || b == null) {
        return false;
      }
      int va = a.ext().valueOf(a.index());
      int vb = b.ext().valueOf(b.index());
      if (va == -2 || vb == -2 || va != vb) {
        return false;
      }
    }
    state(aboveLimits(into, o, then));
    tell(into, o, then);
    return true;
  }

  int defragment(int tree, int name) {
    OneTree t = tree(tree);
    name(name);
    state(t.snapshot);
    FileNode f = fileOf(tree, name);
    Integer[] plan = new Integer[16];
    for (int p = 0; p < 16; p++) {
      if (f.places[p] != null) {
        plan[p] = f.places[p].ext().valueOf(f.places[p].index());
        state(plan[p] == -2);
      }
    }
    List<Ext> beside = new ArrayList<>();
    Cell[] then = planned(f.places, plan, beside);
    state(then == null || aboveLimits(tree, f, then));
    tell(tree, f, then);
    return beside.size();
  }

  int read(int tree, int name, int at) {
    tree(tree);
    name(name);
    run(at, 1, 1);
    Cell c = fileOf(tree, name).places[at];
    if (c == null) {
      return 0;
    }
    Ext e = c.ext();
    if (e.good(0)) {
      return e.cells[c.index()];
    }
    if (e.good(1)) {
      if (e.on[0]) {
        e.bad[0] = false;
        mended++;
      }
      return e.cells[c.index()];
    }
    return -2;
  }

  int ofFile(int tree, int name, int what) {
    OneTree t = tree(tree);
    name(name);
    argument(what < 0 || what > 2);
    FileNode f = fileOf(tree, name);
    Set<Ext> exts = fresh();
    collect(f.places, exts);
    int holes = 0;
    for (Cell c : f.places) {
      holes += c == null ? 1 : 0;
    }
    return what == 0 ? namesOf(t.root, f).size() : what == 1 ? exts.size() : holes;
  }

  int references(int tree, int name, int at) {
    tree(tree);
    name(name);
    run(at, 1, 1);
    Cell c = fileOf(tree, name).places[at];
    int count = 0;
    for (OneTree t : live.values()) {
      Map<Integer, FileNode> byNumber = new HashMap<>();
      for (FileNode f : t.root.names.values()) {
        byNumber.put(f.number, f);
      }
      for (FileNode f : byNumber.values()) {
        for (Cell other : f.places) {
          count += c != null && other != null && other.ext() == c.ext() ? 1 : 0;
        }
      }
    }
    return count;
  }

  int lowestFree() {
    for (int n = 0; n < 6; n++) {
      if (!live.containsKey(n)) {
        return n;
      }
    }
    return -1;
  }

  int branch(int tree, boolean snapshot) {
    OneTree t = tree(tree).like();
    state(live.size() == 6);
    t.snapshot = snapshot;
    int n = lowestFree();
    live.put(n, t);
    return n;
  }

  int drop(int tree) {
    tree(tree);
    state(tree == 0);
    live.remove(tree);
    return live.size();
  }

  void limits(int tree, int refers, int own) {
    OneTree t = tree(tree);
    argument(refers < 0 || refers > 1000 || own < 0 || own > 1000);
    t.refers = refers;
    t.own = own;
  }

  int ofTree(int tree, int what) {
    OneTree t = tree(tree);
    argument(what < 0 || what > 3);
    if (what == 0) {
      int sum = 0;
      for (int n : t.root.names.keySet()) {
        sum += 1 << n;
      }
      return sum;
    }
    return what == 3 ? (t.snapshot ? 1 : 0) : weight(tree, live)[what - 1];
  }

  boolean areAlike(int tree, int other) {
    RootNode a = tree(tree).root;
    RootNode b = tree(other).root;
    if (!a.names.keySet().equals(b.names.keySet())) {
      return false;
    }
    for (int n : a.names.keySet()) {
      for (int p = 0; p < 16; p++) {
        Cell x = a.names.get(n).places[p];
        Cell y = b.names.get(n).places[p];
        int vx = x == null ? 0 : x.ext().valueOf(x.index());
        int vy = y == null ? 0 : y.ext().valueOf(y.index());
        if (vx == -2 || vy == -2 || vx != vy) {
          return false;
        }
      }
    }
    return true;
  }

  static TreeMap<Integer, OneTree> asTheyAre(TreeMap<Integer, OneTree> trees) {
    TreeMap<Integer, OneTree> result = new TreeMap<>();
    for (int n : trees.keySet()) {
      result.put(n, trees.get(n).like());
    }
    return result;
  }

  int commit() {
    kept = asTheyAre(live);
    log.clear();
    return live.size();
  }

  int log(int tree, int name) {
    OneTree t = tree(tree);
    name(name);
    FileNode f = fileOf(tree, name);
    log.removeIf(e -> e.tree() == tree && e.number() == f.number);
    log.add(new Entry(tree, f.number, namesOf(t.root, f), f.places.clone()));
    return log.size();
  }

  int crash() {
    live = asTheyAre(kept);
    int back = 0;
    for (Entry e : log) {
      OneTree t = live.get(e.tree());
      if (t == null || t.snapshot) {
        continue;
      }
      back++;
      FileNode f = null;
      for (FileNode one : t.root.names.values()) {
        f = one.number == e.number() ? one : f;
      }
      RootNode root = rootToChange(e.tree());
      f = f == null ? new FileNode(e.number()) : fileToChange(e.tree(), f);
      for (int n : namesOf(root, f)) {
        root.names.remove(n);
      }
      for (int n : e.names()) {
        root.names.put(n, f);
      }
      System.arraycopy(e.places(), 0, f.places, 0, 16);
    }
    commit();
    return back;
  }

  int send(int from, int to) {
    OneTree a = tree(from);
    OneTree b = tree(to);
    state(!a.snapshot || !b.snapshot);
    TreeMap<Integer, FileNode> byNumber = new TreeMap<>();
    for (FileNode f : b.root.names.values()) {
      byNumber.put(f.number, f);
    }
    List<SentFile> told = new ArrayList<>();
    int count = 0;
    for (FileNode f : byNumber.values()) {
      SentFile s = new SentFile();
      s.names = namesOf(b.root, f);
      FileNode old = null;
      for (int n : a.root.names.keySet()) {
        if (old == null && a.root.names.get(n).number == f.number) {
          old = a.root.names.get(n);
          s.lowest = n;
        }
      }
      for (int p = 0; p < 16; p++) {
        Cell now = f.places[p];
        Cell then = old == null ? null : old.places[p];
        if (now == null ? then != null : !now.same(then)) {
          int value = now == null ? -1 : now.ext().valueOf(now.index());
          state(value == -2);
          s.places.put(p, value);
          count++;
        }
      }
      told.add(s);
    }
    sent = told;
    return count;
  }

  int receive(int onto) {
    OneTree base = tree(onto);
    state(sent == null || !base.snapshot || live.size() == 6);
    List<Ext> beside = new ArrayList<>();
    Set<FileNode> became = Collections.newSetFromMap(new IdentityHashMap<>());
    RootNode root = new RootNode();
    int number = files;
    int copies = 1;
    for (SentFile s : sent) {
      FileNode there = s.lowest == null ? null : base.root.names.get(s.lowest);
      FileNode f;
      if (there == null || !became.add(there)) {
        f = new FileNode(number++);
      } else if (s.places.isEmpty()) {
        f = there;
      } else {
        f = new FileNode(there.number);
        System.arraycopy(there.places, 0, f.places, 0, 16);
        copies++;
      }
      Integer[] plan = new Integer[16];
      for (int p : s.places.keySet()) {
        plan[p] = s.places.get(p);
      }
      Cell[] then = planned(f.places, plan, beside);
      state(then == null);
      System.arraycopy(then, 0, f.places, 0, 16);
      for (int n : s.names) {
        root.names.put(n, f);
      }
    }
    files = number;
    copied += copies;
    OneTree t = new OneTree();
    t.root = root;
    t.snapshot = true;
    int n = lowestFree();
    live.put(n, t);
    return n;
  }

  int profile(int profile) {
    argument(profile < 0 || profile > 1);
    int before = this.profile;
    this.profile = profile;
    return before;
  }

  int balance(int profile) {
    argument(profile < 0 || profile > 1);
    int amiss = 0;
    for (Ext e : inUse()) {
      boolean mirrored = e.on[0] && e.on[1];
      if (profile == 0 && mirrored) {
        int lost = e.good(1) && !e.good(0) ? 0 : 1;
        e.on[lost] = false;
        e.bad[lost] = false;
      } else if (profile == 1 && !mirrored) {
        int other = e.on[0] ? 1 : 0;
        if (e.good(1 - other) && room(other, List.of()) >= e.blocks) {
          e.on[other] = true;
        } else {
          amiss++;
        }
      }
    }
    return amiss;
  }

  boolean damage(int disk, int tree, int name, int at) {
    outside(disk < 0 || disk > 1);
    tree(tree);
    name(name);
    run(at, 1, 1);
    Cell c = fileOf(tree, name).places[at];
    if (c == null || !c.ext().on[disk]) {
      return false;
    }
    c.ext().bad[disk] = true;
    return true;
  }

  int scrub() {
    int count = 0;
    for (Ext e : inUse()) {
      for (int d = 0; d < 2; d++) {
        if (e.bad[d] && e.good(1 - d)) {
          e.bad[d] = false;
          count++;
        }
      }
    }
    mended += count;
    return count;
  }

  int free(int disk) {
    outside(disk < 0 || disk > 1);
    return room(disk, List.of());
  }
}
