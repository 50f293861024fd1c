import java.util.List;

/** The sentences of "TREES, FILES" and of the promises 1 to 6, 8, 9, 13 to 16, 18, 19 and 31, each at its edges. */
public final class EdgesOfTreesTest {
  private static final int LEAST = Integer.MIN_VALUE;
  private static final int MOST = Integer.MAX_VALUE;
  private static final Check check = new Check("EdgesOfTreesTest");

  private static void outside(String what, Check.Call call) {
    check.throwing(IndexOutOfBoundsException.class, what, call);
  }

  private static void refused(String what, Check.Call call) {
    check.throwing(IllegalStateException.class, what, call);
  }

  private static Object rename(Treebark x, int tree, int name, int other, boolean exchanges) {
    x.rename(tree, name, other, exchanges);
    return "nothing";
  }

  /** How many more roots and nodes were copied than ahead. */
  private static void copies(Treebark x, String what, int want, Check.Call call) {
    int before = x.copied();
    call.run();
    check.due("copied by " + what, want, x.copied() - before);
  }

  private static void sixTrees() {
    check.promise("there are at most 6 trees, numbered from 0, the lowest free number first; the tree 0 is there at first");
    Treebark x = new Treebark();
    check.due("one tree at first", 1, x.commit());
    outside("no tree 1", () -> x.ofTree(1, 0));
    for (int tree = 1; tree < 6; tree++) {
      check.due("of the last one", tree, x.branch(tree - 1, tree % 2 == 1));
      check.due("as many", tree + 1, x.commit());
    }
    for (int tree = 0; tree < 6; tree++) {
      int from = tree;
      refused("a seventh one of the tree " + from, () -> x.branch(from, true));
    }
    for (int tree : new int[] {-1, 6, LEAST, MOST}) {
      outside("with six, of the tree " + tree, () -> x.branch(tree, true));
      outside("drop(" + tree + ")", () -> x.drop(tree));
    }
    x.send(1, 3);
    refused("receive a seventh one", () -> x.receive(1));
    refused("the tree 0 is not dropped", () -> x.drop(0));
    check.due("still six", 6, x.commit());
    check.due("five", 5, x.drop(5));
    check.due("four", 4, x.drop(2));
    check.due("three", 3, x.drop(4));
    check.due("the lowest free one is 2", 2, x.branch(0, true));
    check.due("then 4, received", 4, x.receive(1));
    check.due("then 5", 5, x.branch(3, true));
    refused("then none", () -> x.branch(0, true));
    check.due("behind a crash the free ones are as they were committed", 0, x.crash());
    refused("none", () -> x.branch(0, true));
    for (int tree = 1; tree < 6; tree++) {
      check.due("all but the tree 0 are dropped", 6 - tree, x.drop(tree));
    }
    check.due("from 1 again", 1, x.branch(0, true));
  }

  private static void tenNames() {
    check.promise("a tree has the names 0 to 9, each of no file, or of one");
    Treebark x = new Treebark();
    check.due("of none at first", 0, x.ofTree(0, 0));
    for (int name = 0; name < 10; name++) {
      check.due("file(0, " + name + ") of none", Treebark.NONE, x.file(0, name));
      check.due("a number of each", name, x.create(0, name));
      check.due("2 to the power of each", (2 << name) - 1, x.ofTree(0, 0));
      check.due("file(0, " + name + ")", name, x.file(0, name));
    }
    for (int name : new int[] {-1, 10, LEAST, MOST}) {
      outside("file(0, " + name + ")", () -> x.file(0, name));
      outside("create(0, " + name + ")", () -> x.create(0, name));
      outside("link(0, 0, " + name + ")", () -> x.link(0, 0, name));
      outside("link(0, " + name + ", 0)", () -> x.link(0, name, 0));
      outside("unlink(0, " + name + ")", () -> x.unlink(0, name));
      outside("rename(0, 0, " + name + ")", () -> rename(x, 0, 0, name, false));
      outside("rename(0, " + name + ", 0)", () -> rename(x, 0, name, 0, true));
    }
    for (int name = 0; name < 10; name++) {
      int taken = name;
      refused("a name that is of a file", () -> x.create(0, taken));
      refused("nor is it linked", () -> x.link(0, 9 - taken, taken));
    }
    check.due("ten names", 1023, x.ofTree(0, 0));
    x.unlink(0, 9);
    check.due("no number was given in vain", 10, x.create(0, 9));
  }

  private static void severalNames() {
    check.promise("a file may have several names in its tree, and is gone without any");
    Treebark x = new Treebark();
    x.create(0, 9);
    x.write(0, 9, 0, 4, 10, 1);
    for (int name = 0; name < 9; name++) {
      check.due("link", name + 2, x.link(0, 9, name));
      check.due("how many names it has", name + 2, x.ofFile(0, name, 0));
    }
    check.due("all ten", 1023, x.ofTree(0, 0));
    for (int name = 9; name > 0; name--) {
      check.due("unlink", name, x.unlink(0, name));
      check.due("how many names it has", name, x.ofFile(0, 0, 0));
      check.due("it reads as it did", 13, x.read(0, 0, 3));
    }
    check.due("without the last one", 0, x.unlink(0, 0));
    check.due("it is gone", 40, x.free(0));
    refused("and has no name", () -> x.unlink(0, 0));
    check.due("a file of the same name is another one", 1, x.create(0, 0));
    check.due("of holes", 16, x.ofFile(0, 0, 2));
  }

  private static void renamedOver() {
    check.promise("5, rename: a file that has it has it no more");
    Treebark x = new Treebark();
    x.create(0, 0);
    x.create(0, 9);
    x.write(0, 9, 0, 4, 10, 1);
    rename(x, 0, 0, 9, false);
    check.due("the least name, over the greatest", 512, x.ofTree(0, 0));
    check.due("the last name of a file is gone with it", 40, x.free(0));
    rename(x, 0, 9, 0, false);
    check.due("to one of no file", 1, x.ofTree(0, 0));
    x.create(0, 5);
    x.link(0, 5, 6);
    rename(x, 0, 0, 5, false);
    check.due("a file with another name is there", 2, x.file(0, 6));
    check.due("with one name less", 1, x.ofFile(0, 6, 0));
    rename(x, 0, 5, 6, true);
    check.due("exchanged", 2, x.file(0, 5));
    check.due("exchanged", 0, x.file(0, 6));
    check.due("none is gone by that", 32 + 64, x.ofTree(0, 0));
    refused("exchange with a name of no file", () -> rename(x, 0, 5, 0, true));
    refused("exchange of a name of no file with itself", () -> rename(x, 0, 0, 0, true));
    check.due("nothing was changed", 32 + 64, x.ofTree(0, 0));
  }

  private static void sameFile() {
    check.promise("5, rename: if both are of the same file, nothing is changed");
    Treebark x = new Treebark();
    x.create(0, 0);
    x.link(0, 0, 9);
    int snapshot = x.branch(0, true);
    for (boolean exchanges : new boolean[] {false, true}) {
      copies(x, "names of the same file", 0, () -> rename(x, 0, 0, 9, exchanges));
      copies(x, "the same name", 0, () -> rename(x, 0, 9, 9, exchanges));
      check.due("both are there", 513, x.ofTree(0, 0));
      refused("in a SNAPSHOT it is refused", () -> rename(x, snapshot, 0, 9, exchanges));
      refused("of no file it is refused", () -> rename(x, 0, 5, 5, exchanges));
    }
  }

  private static void sixteenPlaces() {
    check.promise("a file has the places 0 to 15, each a hole, which reads as 0, or a cell");
    Treebark x = new Treebark();
    x.create(0, 0);
    for (int at = 0; at < 16; at++) {
      check.due("a hole reads as 0", 0, x.read(0, 0, at));
      check.due("and has no references", 0, x.references(0, 0, at));
      check.due("holes", 16 - at, x.ofFile(0, 0, 2));
      check.due("extents", at, x.ofFile(0, 0, 1));
      x.write(0, 0, at, 1, at, 0);
      check.due("a cell", at, x.read(0, 0, at));
      check.due("and has one", 1, x.references(0, 0, at));
    }
    for (int at : new int[] {-1, 16, LEAST, MOST}) {
      outside("read(0, 0, " + at + ")", () -> x.read(0, 0, at));
      outside("references(0, 0, " + at + ")", () -> x.references(0, 0, at));
      outside("damage(0, 0, 0, " + at + ")", () -> x.damage(0, 0, 0, at));
      outside("write at " + at, () -> x.write(0, 0, at, 1, 1, 0));
      outside("punch at " + at, () -> x.punch(0, 0, at, 1));
      outside("clone at " + at, () -> x.clone(0, 0, at, 1, 0, 0, 0));
      outside("clone to " + at, () -> x.clone(0, 0, 0, 1, 0, 0, at));
    }
    check.due("no hole is left", 0, x.ofFile(0, 0, 2));
    check.due("all as they were told", List.of(0, 1, 2, 3, 4, 5, 6, 7, 8, 9, 10, 11, 12, 13, 14, 15), Check.places(x, 0, 0));
  }

  private static void punchEdges() {
    check.promise("8, punch: 1 to 16, so that all are there; how many were none");
    Treebark x = new Treebark();
    x.create(0, 0);
    check.due("holes alone", 0, x.punch(0, 0, 0, 16));
    x.write(0, 0, 0, 1, 5, 0);
    x.write(0, 0, 15, 1, 6, 0);
    check.due("between", 0, x.punch(0, 0, 1, 14));
    check.due("all but the last one", 1, x.punch(0, 0, 0, 15));
    check.due("which is there", 6, x.read(0, 0, 15));
    check.due("the last one", 1, x.punch(0, 0, 15, 1));
    for (int at = 0; at < 16; at += 4) {
      x.write(0, 0, at, 4, 5, 1);
    }
    check.due("all", 16, x.punch(0, 0, 0, 16));
    check.due("a 0 is no hole", 1, x.write(0, 0, 0, 4, 0, 0));
    check.due("so they were none", 4, x.punch(0, 0, 0, 4));
  }

  private static void cloneEdges() {
    check.promise("9, clone: 1 to 16, so that all are there, in both; as they were ahead of the call");
    Treebark x = new Treebark();
    x.create(0, 0);
    x.create(0, 9);
    check.due("holes alone", 0, x.clone(0, 0, 0, 16, 0, 9, 0));
    for (int at = 0; at < 16; at++) {
      x.write(0, 0, at, 1, at, 0);
    }
    check.due("all", 16, x.clone(0, 0, 0, 16, 0, 9, 0));
    check.due("onto itself", 16, x.clone(0, 0, 0, 16, 0, 0, 0));
    check.due("the last one onto the first one", 15, x.clone(0, 0, 15, 1, 0, 9, 0));
    check.due("reads so", 15, x.read(0, 9, 0));
    check.due("the first one onto the last one", 15, x.clone(0, 0, 0, 1, 0, 0, 15));
    check.due("reads so", 0, x.read(0, 0, 15));
    check.due("the first one's last extent is in the other file alone", 14, x.clone(0, 0, 1, 1, 0, 9, 1));
    check.due("15 back by one", 15, x.clone(0, 9, 1, 15, 0, 9, 0));
    check.due("each was the next one", List.of(1, 2, 3, 4, 5, 6, 7, 8, 9, 10, 11, 12, 13, 14, 15, 15), Check.places(x, 0, 9));
    x.clone(0, 9, 0, 15, 0, 9, 1);
    check.due("15 on by one", List.of(1, 1, 2, 3, 4, 5, 6, 7, 8, 9, 10, 11, 12, 13, 14, 15), Check.places(x, 0, 9));
    x.punch(0, 0, 0, 16);
    check.due("none is shared", 0, x.clone(0, 0, 8, 1, 0, 9, 8));
    check.due("a hole becomes one", 0, x.read(0, 9, 8));
    check.due("and just that", 1, x.ofFile(0, 9, 2));
  }

  /** Each cell of an extent in each place. */
  private static void cloneCells() {
    Treebark x = new Treebark();
    x.create(0, 0);
    x.create(0, 9);
    for (int place = 0; place < 16; place += 5) {
      x.write(0, 0, Math.min(place, 12), 4, 100, 10);
      for (int cell = 0; cell < 4; cell++) {
        for (int to = 0; to < 16; to++) {
          x.clone(0, 0, Math.min(place, 12) + cell, 1, 0, 9, to);
          check.due("the cell " + cell + " in the place " + to, 100 + 10 * cell, x.read(0, 9, to));
        }
        check.due("one extent in all places", 1, x.ofFile(0, 9, 1));
      }
    }
  }

  private static void dedupeEdges() {
    check.promise("10, dedupe: if all are no holes and read alike in both");
    Treebark x = new Treebark();
    x.create(0, 0);
    x.create(0, 9);
    check.due("holes alone", false, x.dedupe(0, 0, 0, 16, 0, 9, 0));
    check.due("a hole with itself", false, x.dedupe(0, 0, 0, 1, 0, 0, 0));
    for (int at = 0; at < 16; at += 4) {
      x.write(0, 0, at, 4, 0, 0);
      x.write(0, 9, at, 4, 0, 0);
    }
    x.write(0, 9, 15, 1, 1, 0);
    check.due("all but the last one", false, x.dedupe(0, 0, 0, 16, 0, 9, 0));
    check.due("nothing is done then", 4, x.references(0, 0, 0));
    x.write(0, 9, 15, 1, 0, 0);
    x.write(0, 9, 0, 1, 1, 0);
    check.due("all but the first one", false, x.dedupe(0, 0, 0, 16, 0, 9, 0));
    x.write(0, 9, 0, 1, 0, 0);
    x.punch(0, 0, 15, 1);
    check.due("the last one is a hole, which reads alike", false, x.dedupe(0, 0, 0, 16, 0, 9, 0));
    check.due("the other way round", false, x.dedupe(0, 9, 0, 16, 0, 0, 0));
    check.due("15 of them", true, x.dedupe(0, 0, 0, 15, 0, 9, 0));
    check.due("share what is there", 8, x.references(0, 0, 0));
    check.due("the last one does not", 1, x.references(0, 9, 15));
    check.due("a single last one", true, x.dedupe(0, 0, 14, 1, 0, 9, 15));
    check.due("shares it", 3 + 4, x.references(0, 9, 15));
    check.due("all with itself", true, x.dedupe(0, 9, 0, 16, 0, 9, 0));
  }

  private static void snapshots() {
    check.promise("a SNAPSHOT cannot be changed");
    Treebark x = new Treebark();
    x.create(0, 0);
    x.create(0, 1);
    x.write(0, 0, 0, 4, 10, 1);
    int snapshot = x.branch(0, true);
    refused("create", () -> x.create(snapshot, 5));
    refused("link", () -> x.link(snapshot, 0, 5));
    refused("unlink", () -> x.unlink(snapshot, 0));
    refused("rename", () -> rename(x, snapshot, 0, 5, false));
    refused("rename over", () -> rename(x, snapshot, 0, 1, false));
    refused("exchange", () -> rename(x, snapshot, 0, 1, true));
    refused("write", () -> x.write(snapshot, 0, 0, 4, 10, 1));
    refused("punch", () -> x.punch(snapshot, 0, 0, 1));
    refused("punch of holes", () -> x.punch(snapshot, 1, 0, 1));
    refused("clone into it", () -> x.clone(0, 0, 0, 1, snapshot, 1, 0));
    refused("clone in it", () -> x.clone(snapshot, 0, 0, 1, snapshot, 0, 0));
    refused("dedupe into it", () -> x.dedupe(0, 0, 0, 1, snapshot, 0, 0));
    refused("dedupe that would not be done", () -> x.dedupe(0, 0, 0, 1, snapshot, 1, 0));
    refused("defragment", () -> x.defragment(snapshot, 0));
    refused("defragment of holes alone", () -> x.defragment(snapshot, 1));
    check.due("it is as it was", true, x.areAlike(0, snapshot));
    check.due("clone out of it", 1, x.clone(snapshot, 0, 0, 1, 0, 1, 0));
    check.due("dedupe out of it", true, x.dedupe(snapshot, 0, 0, 1, 0, 1, 0));
    check.due("log of it", 1, x.log(snapshot, 0));
    check.due("damage in it", true, x.damage(0, snapshot, 0, 0));
    x.limits(snapshot, 0, 0);
    check.due("a tree of it is to be written", 2, x.branch(snapshot, false));
    check.due("which is no SNAPSHOT", 0, x.ofTree(2, 3));
    check.due("a SNAPSHOT of it", 3, x.branch(snapshot, true));
    check.due("is one", 1, x.ofTree(3, 3));
    check.due("drop of it", 3, x.drop(snapshot));
  }

  /** The files 0 (of places) and 9 (of holes) in the tree 0; all is committed, or in another tree, or neither. */
  private static Treebark forCopies(int how) {
    Treebark x = new Treebark();
    if (how == 0) {
      x.branch(0, false);
    }
    x.create(0, 0);
    x.create(0, 9);
    x.write(0, 0, 0, 4, 10, 1);
    x.write(0, 0, 4, 4, 10, 1);
    if (how == 1) {
      x.commit();
    } else if (how == 2) {
      x.branch(0, true);
    } else if (how == 3) {
      x.branch(0, false);
      x.commit();
      x.drop(1);
    }
    return x;
  }

  private static void copiedRoots() {
    check.promise("a root is copied, before it is changed, if it was committed last, or is in another tree");
    for (int how = 0; how < 4; how++) {
      int root = how == 0 ? 0 : 1;
      Treebark x = forCopies(how);
      copies(x, "create", root, () -> x.create(0, 1));
      copies(x, "create once more", 0, () -> x.create(0, 2));
      Treebark y = forCopies(how);
      copies(y, "link", root, () -> y.link(0, 0, 1));
      copies(y, "unlink once more", 0, () -> y.unlink(0, 1));
      Treebark z = forCopies(how);
      copies(z, "unlink", root, () -> z.unlink(0, 9));
      copies(z, "rename once more", 0, () -> rename(z, 0, 0, 9, false));
      Treebark u = forCopies(how);
      copies(u, "rename", root, () -> rename(u, 0, 0, 5, false));
      copies(u, "exchange once more", 0, () -> rename(u, 0, 5, 9, true));
      Treebark v = forCopies(how);
      copies(v, "exchange", root, () -> rename(v, 0, 0, 9, true));
      copies(v, "link once more", 0, () -> v.link(0, 0, 8));
    }
  }

  private static void copiedNodes() {
    check.promise("a node is copied by what tells places, also if they become what they were, a root by that only if its node is");
    for (int how = 0; how < 4; how++) {
      int both = how == 0 ? 0 : 2;
      int one = how == 0 ? 0 : 1;
      Treebark x = forCopies(how);
      copies(x, "write of what it was", both, () -> x.write(0, 0, 0, 4, 10, 1));
      copies(x, "punch of the same file", 0, () -> x.punch(0, 0, 0, 4));
      copies(x, "punch of holes in another file", one, () -> x.punch(0, 9, 0, 16));
      Treebark y = forCopies(how);
      copies(y, "punch of holes", both, () -> y.punch(0, 0, 15, 1));
      copies(y, "clone onto itself", 0, () -> y.clone(0, 0, 0, 4, 0, 0, 0));
      copies(y, "clone of holes onto holes", one, () -> y.clone(0, 0, 8, 8, 0, 9, 0));
      Treebark z = forCopies(how);
      copies(z, "clone onto itself", both, () -> z.clone(0, 0, 0, 4, 0, 0, 0));
      copies(z, "defragment of holes alone", one, () -> z.defragment(0, 9));
      Treebark u = forCopies(how);
      copies(u, "dedupe that is not done", 0, () -> u.dedupe(0, 0, 0, 1, 0, 0, 1));
      copies(u, "dedupe onto itself", both, () -> u.dedupe(0, 0, 0, 1, 0, 0, 0));
      copies(u, "dedupe of others", 0, () -> u.dedupe(0, 0, 0, 4, 0, 0, 4));
      Treebark v = forCopies(how);
      copies(v, "defragment", both, () -> v.defragment(0, 0));
      copies(v, "write to another file", one, () -> v.write(0, 9, 0, 1, 1, 1));
    }
  }

  private static void copiedNodesAlone() {
    Treebark x = forCopies(1);
    copies(x, "a new file: the root", 1, () -> x.create(0, 1));
    copies(x, "its places", 0, () -> x.write(0, 1, 0, 1, 1, 1));
    copies(x, "those of an old one: its node", 1, () -> x.write(0, 0, 0, 1, 1, 1));
    copies(x, "clone out of an old one into a new one", 0, () -> x.clone(0, 9, 0, 1, 0, 1, 0));
    copies(x, "clone out of a new one into an old one", 1, () -> x.clone(0, 1, 0, 1, 0, 9, 0));
    copies(x, "a commit", 0, () -> x.commit());
    copies(x, "the new one, committed", 2, () -> x.punch(0, 1, 0, 1));
    int other = x.branch(0, false);
    copies(x, "in the other tree root and node", 2, () -> x.punch(other, 1, 0, 1));
    copies(x, "the root is that of this tree alone, and so is the node", 0, () -> x.punch(0, 1, 0, 1));
    copies(x, "a node of both, without the root", 1, () -> x.punch(0, 9, 0, 1));
    copies(x, "which was committed: without the root", 1, () -> x.punch(other, 9, 0, 1));
    x.drop(other);
    copies(x, "names, with a root of this tree alone", 0, () -> x.unlink(0, 9));
    int last = x.branch(0, true);
    x.drop(last);
    copies(x, "behind a drop of the other tree", 0, () -> x.create(0, 9));
  }

  private static void notCopied() {
    check.promise("31, copied: what changes neither names nor places");
    Treebark x = forCopies(2);
    x.commit();
    int before = x.copied();
    x.read(0, 0, 0);
    x.ofFile(0, 0, 1);
    x.references(0, 0, 0);
    x.log(0, 0);
    x.damage(0, 0, 0, 0);
    x.limits(0, 50, 50);
    x.balance(Treebark.MIRROR);
    x.scrub();
    x.profile(Treebark.SINGLE);
    x.branch(0, true);
    x.drop(2);
    x.commit();
    x.send(1, 1);
    x.crash();
    refused("a refused call", () -> x.link(0, 0, 9));
    refused("a refused call", () -> x.write(1, 0, 0, 1, 1, 1));
    check.due("copied", before, x.copied());
    Treebark y = new Treebark();
    check.due("of a new object", 0, y.copied());
    copies(y, "create: all is committed at first", 1, () -> y.create(0, 0));
    y.crash();
    check.due("which comes back without files", 0, y.ofTree(0, 0));
    copies(y, "create once more", 1, () -> y.create(0, 0));
  }

  private static void numbers() {
    check.promise("files are numbered from 0 as they are made, in all trees together; a copy of a node has its number");
    Treebark x = new Treebark();
    check.due("the first one", 0, x.create(0, 9));
    int other = x.branch(0, false);
    check.due("in another tree", 1, x.create(other, 0));
    check.due("in the first one", 2, x.create(0, 0));
    x.write(other, 9, 0, 1, 1, 0);
    check.due("a copy", 0, x.file(other, 9));
    refused("a refused one", () -> x.create(0, 0));
    x.unlink(0, 0);
    x.drop(other);
    x.crash();
    check.due("those of files that are gone do not come again", 3, x.create(0, 5));
  }

  private static void alikeEdges() {
    check.promise("19, areAlike: the same names, each of which reads alike in all places");
    Treebark x = new Treebark();
    check.due("an empty tree and itself", true, x.areAlike(0, 0));
    int other = x.branch(0, false);
    x.create(0, 0);
    check.due("a file of holes is none", false, x.areAlike(0, other) || x.areAlike(other, 0));
    x.create(other, 0);
    check.due("two files of holes", true, x.areAlike(0, other) && x.areAlike(other, 0));
    for (int at = 0; at < 16; at += 15) {
      x.write(0, 0, at, 1, 0, 0);
      check.due("a 0 at " + at + " and a hole", true, x.areAlike(0, other) && x.areAlike(other, 0));
      x.write(0, 0, at, 1, 1, 0);
      check.due("a 1 at " + at + " and a hole", false, x.areAlike(0, other) || x.areAlike(other, 0));
      x.write(other, 0, at, 1, 1, 0);
      check.due("a 1 at " + at + " in both", true, x.areAlike(0, other) && x.areAlike(other, 0));
    }
    x.create(0, 9);
    x.create(other, 8);
    check.due("as many names", false, x.areAlike(0, other) || x.areAlike(other, 0));
    x.rename(other, 8, 9, false);
    check.due("the same names", true, x.areAlike(0, other) && x.areAlike(other, 0));
    x.write(0, 9, 15, 1, 1, 0);
    check.due("the last place of the last name", false, x.areAlike(0, other) || x.areAlike(other, 0));
    for (int tree : new int[] {-1, 2, 6, LEAST, MOST}) {
      outside("areAlike(0, " + tree + ")", () -> x.areAlike(0, tree));
      outside("areAlike(" + tree + ", 0)", () -> x.areAlike(tree, 0));
    }
  }

  private static void referencesEdges() {
    check.promise("14, references: files that are shared counted once for each tree");
    Treebark x = new Treebark();
    x.create(0, 0);
    x.write(0, 0, 0, 1, 1, 0);
    for (int at = 1; at < 16; at++) {
      x.clone(0, 0, 0, 1, 0, 0, at);
      check.due("places of a file", at + 1, x.references(0, 0, at));
    }
    for (int name = 1; name < 9; name++) {
      x.create(0, name);
      x.clone(0, 0, 0, 16, 0, name, 0);
    }
    x.link(0, 0, 9);
    check.due("of nine files, one of them with two names", 9 * 16, x.references(0, 9, 15));
    for (int tree = 1; tree < 6; tree++) {
      x.branch(0, tree % 2 == 0);
    }
    check.due("of six trees", 6 * 9 * 16, x.references(5, 9, 15));
    check.due("one extent", 1, x.ofTree(0, 1));
    check.due("which is not the own of one", 0, x.ofTree(0, 2));
    x.punch(0, 0, 3, 1);
    check.due("a hole", 0, x.references(0, 9, 3));
    check.due("one less", 6 * 9 * 16 - 1, x.references(0, 9, 4));
  }

  private static void newTreeOfAnEmptyOne() {
    check.promise("15, branch: of an empty tree");
    Treebark x = new Treebark();
    check.due("an empty one", 1, x.branch(0, true));
    check.due("names", 0, x.ofTree(1, 0));
    check.due("blocks", 0, x.ofTree(1, 1));
    check.due("its own", 0, x.ofTree(1, 2));
    check.due("both are alike", true, x.areAlike(0, 1));
    for (int tree = 0; tree < 2; tree++) {
      int t = tree;
      check.due("no file", Treebark.NONE, x.file(t, 0));
      refused("read of no file", () -> x.read(t, 0, 0));
      refused("ofFile of no file", () -> x.ofFile(t, 0, 0));
      refused("references of no file", () -> x.references(t, 0, 0));
      refused("log of no file", () -> x.log(t, 0));
      refused("damage of no file", () -> x.damage(0, t, 0, 0));
      refused("punch of no file", () -> x.punch(t, 0, 0, 1));
      refused("defragment of no file", () -> x.defragment(t, 0));
      refused("unlink of no file", () -> x.unlink(t, 0));
      refused("link of no file", () -> x.link(t, 0, 1));
    }
    copies(x, "a name in the tree that shares the empty root", 1, () -> x.create(0, 0));
    check.due("which the other one has not", 0, x.ofTree(1, 0));
  }

  public static void main(String[] args) {
    sixTrees();
    tenNames();
    severalNames();
    renamedOver();
    sameFile();
    sixteenPlaces();
    punchEdges();
    cloneEdges();
    cloneCells();
    dedupeEdges();
    snapshots();
    copiedRoots();
    copiedNodes();
    copiedNodesAlone();
    notCopied();
    numbers();
    alikeEdges();
    referencesEdges();
    newTreeOfAnEmptyOne();
    check.end();
  }
}
