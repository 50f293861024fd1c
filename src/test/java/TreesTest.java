/** Promises 1, 15 to 19, and the constants: trees. */
public final class TreesTest {
  private static final Check check = new Check("TreesTest");

  private static void newObject() {
    check.promise("1, a new object");
    Treebark x = new Treebark();
    check.due("NONE", -1, Treebark.NONE);
    check.due("LOST", -2, Treebark.LOST);
    check.due("SINGLE", 0, Treebark.SINGLE);
    check.due("MIRROR", 1, Treebark.MIRROR);
    check.due("names", 0, x.ofTree(0, 0));
    check.due("it is no SNAPSHOT", 0, x.ofTree(0, 3));
    check.due("copied", 0, x.copied());
    check.due("mended", 0, x.mended());
    check.due("free(0)", 40, x.free(0));
    check.due("free(1)", 40, x.free(1));
    check.due("freeAnew(0)", 40, x.freeAnew(0));
    check.due("freeAnew(1)", 40, x.freeAnew(1));
    check.due("the profile", Treebark.SINGLE, x.profile(Treebark.MIRROR));
    check.due("one tree, with nothing logged", 0, x.crash());
    check.due("one tree", 1, x.commit());
    for (int tree = -1; tree < 7; tree++) {
      int t = tree;
      if (t != 0) {
        check.outside(x, "ofTree(" + t + ", 0)", () -> x.ofTree(t, 0));
      }
    }
    check.state(x, "nothing was sent", () -> x.receive(x.branch(0, true) - x.drop(1)));
    Treebark y = new Treebark();
    y.create(0, 0);
    check.due("all is committed at first: the root is copied", 1, y.copied());
    y.crash();
    check.due("and comes back", 0, y.ofTree(0, 0));
  }

  private static void branch() {
    check.promise("15, branch");
    Treebark x = new Treebark();
    x.create(0, 0);
    x.write(0, 0, 0, 4, 10, 1);
    x.limits(0, 5, 6);
    int free = x.free(0);
    int copied = x.copied();
    check.due("the lowest free number", 1, x.branch(0, true));
    check.due("the next one", 2, x.branch(1, false));
    check.due("a SNAPSHOT", 1, x.ofTree(1, 3));
    check.due("none, of a SNAPSHOT", 0, x.ofTree(2, 3));
    check.due("it is alike", true, x.areAlike(0, 2));
    check.due("no block is taken", free, x.free(0));
    check.due("nothing is copied", copied, x.copied());
    check.state(x, "it has its limit", () -> x.write(2, 0, 4, 2, 1, 1));
    x.limits(2, 1000, 6);
    x.write(2, 0, 4, 3, 1, 1);
    x.write(2, 0, 7, 3, 1, 1);
    check.state(x, "it has its other limit", () -> x.write(2, 0, 10, 1, 1, 1));
    x.branch(0, true);
    x.branch(0, true);
    check.due("the last one", 5, x.branch(0, true));
    check.outside(x, "no tree", () -> x.branch(6, true));
    check.outside(x, "no tree ahead", () -> x.branch(-1, true));
    check.state(x, "there are 6", () -> x.branch(0, false));
    x.drop(3);
    x.drop(1);
    check.outside(x, "one that was dropped", () -> x.branch(1, true));
    check.due("the lowest free number again", 1, x.branch(2, true));
    check.due("made of another one", true, x.areAlike(1, 2));
    x.limits(2, 0, 0);
    x.limits(0, 1000, 1000);
    check.due("its limits are its own", 1, x.write(0, 0, 4, 1, 1, 1));
  }

  private static void drop() {
    check.promise("16, drop");
    Treebark x = new Treebark();
    x.create(0, 0);
    x.branch(0, false);
    x.branch(0, true);
    x.write(1, 0, 0, 4, 10, 1);
    check.due("two are left", 2, x.drop(1));
    check.due("its blocks are free", 40, x.free(0));
    check.outside(x, "drop(1)", () -> x.drop(1));
    check.due("a SNAPSHOT, too", 1, x.drop(2));
    check.outside(x, "drop(6)", () -> x.drop(6));
    check.outside(x, "drop(-1)", () -> x.drop(-1));
    check.state(x, "drop(0)", () -> x.drop(0));
    x.branch(0, false);
    x.write(1, 0, 0, 4, 10, 1);
    x.commit();
    x.drop(1);
    check.due("what was committed stays", 36, x.free(0));
    x.crash();
    check.due("and comes back", 13, x.read(1, 0, 3));
    x.drop(1);
    x.commit();
    check.due("until it is committed", 40, x.free(0));
  }

  private static Object limits(Treebark x, int tree, int refers, int own) {
    x.limits(tree, refers, own);
    return "nothing";
  }

  private static void setLimits() {
    check.promise("17, limits");
    Treebark x = new Treebark();
    x.create(0, 0);
    x.branch(0, true);
    check.due("0 to 1000", "nothing", limits(x, 0, 0, 1000));
    check.state(x, "none", () -> x.write(0, 0, 0, 1, 1, 1));
    check.due("the other way round", "nothing", limits(x, 0, 1000, 0));
    check.state(x, "none of its own", () -> x.write(0, 0, 0, 1, 1, 1));
    check.due("a SNAPSHOT, too", "nothing", limits(x, 1, 1, 1));
    int writable = x.branch(1, false);
    check.state(x, "which it tells on", () -> x.write(writable, 0, 0, 2, 1, 1));
    check.due("just one", 1, x.write(writable, 0, 0, 1, 1, 1));
    limits(x, 0, 1000, 1000);
    x.commit();
    limits(x, 0, 0, 0);
    x.crash();
    check.due("they are committed", 1, x.write(0, 0, 0, 1, 1, 1));
    limits(x, 0, 0, 0);
    check.outside(x, "no tree", () -> limits(x, 3, 1, 1));
    check.outside(x, "no tree, and too high", () -> limits(x, -1, 1001, 1));
    check.argument(x, "too high", () -> limits(x, 0, 1001, 1));
    check.argument(x, "too low", () -> limits(x, 0, -1, 1));
    check.argument(x, "the other too high", () -> limits(x, 0, 1, 1001));
    check.argument(x, "the other too low", () -> limits(x, 0, 1, -1));
    check.state(x, "nothing was changed by that", () -> x.write(0, 0, 1, 1, 1, 1));
  }

  private static void ofTree() {
    check.promise("18, ofTree");
    Treebark x = new Treebark();
    x.create(0, 0);
    x.create(0, 3);
    x.link(0, 3, 9);
    check.due("names", 1 + 8 + 512, x.ofTree(0, 0));
    x.write(0, 0, 0, 4, 10, 1);
    x.clone(0, 0, 0, 4, 0, 3, 0);
    x.write(0, 0, 0, 1, 1, 0);
    check.due("each extent counts once, also for one cell", 5, x.ofTree(0, 1));
    check.due("all are its own", 5, x.ofTree(0, 2));
    x.branch(0, true);
    x.branch(0, false);
    check.due("none is", 0, x.ofTree(0, 2));
    x.profile(Treebark.MIRROR);
    x.write(0, 0, 4, 3, 1, 1);
    x.write(0, 0, 8, 3, 1, 0);
    check.due("both copies count", 5 + 6 + 2, x.ofTree(0, 1));
    check.due("its own", 8, x.ofTree(0, 2));
    check.due("not the other's", 0, x.ofTree(2, 2));
    check.due("the other refers to", 5, x.ofTree(2, 1));
    x.clone(0, 0, 8, 1, 2, 0, 0);
    check.due("one is shared", 6, x.ofTree(0, 2));
    check.due("by both, in place of one block", 6, x.ofTree(2, 1));
    x.commit();
    x.punch(2, 0, 0, 16);
    check.due("what was committed is no tree", 8, x.ofTree(0, 2));
    x.balance(Treebark.SINGLE);
    check.due("as they lie now", 9, x.ofTree(0, 1));
    check.due("a SNAPSHOT", 1, x.ofTree(1, 3));
    check.due("no SNAPSHOT", 0, x.ofTree(2, 3));
    check.outside(x, "no tree", () -> x.ofTree(3, 0));
    check.outside(x, "no tree, and 4", () -> x.ofTree(-1, 4));
    check.argument(x, "4", () -> x.ofTree(0, 4));
    check.argument(x, "-1", () -> x.ofTree(0, -1));
  }

  private static void areAlike() {
    check.promise("19, areAlike");
    Treebark x = new Treebark();
    x.profile(Treebark.MIRROR);
    x.create(0, 0);
    x.write(0, 0, 0, 2, 10, 1);
    x.branch(0, true);
    check.due("the same root", true, x.areAlike(0, 1));
    x.write(0, 0, 0, 2, 10, 1);
    check.due("other extents", true, x.areAlike(0, 1));
    x.write(0, 0, 15, 1, 0, 0);
    check.due("a hole reads as 0", true, x.areAlike(1, 0));
    x.write(0, 0, 15, 1, 1, 0);
    check.due("not as 1", false, x.areAlike(1, 0));
    x.punch(0, 0, 15, 1);
    x.create(0, 1);
    check.due("another name", false, x.areAlike(0, 1));
    check.due("another name there", false, x.areAlike(1, 0));
    x.unlink(0, 1);
    x.rename(0, 0, 1, false);
    check.due("as many names, but others", false, x.areAlike(1, 0));
    x.rename(0, 1, 0, false);
    int writable = x.branch(1, false);
    x.link(0, 0, 5);
    x.create(writable, 5);
    x.clone(0, 0, 0, 16, writable, 5, 0);
    check.due("names of one file, and of two", true, x.areAlike(0, writable));
    x.write(writable, 5, 1, 1, 12, 0);
    check.due("one differs in the second file", false, x.areAlike(0, writable));
    x.write(writable, 5, 1, 1, 11, 0);
    x.damage(0, 0, 0, 0);
    check.due("a good copy is enough", true, x.areAlike(0, writable));
    check.due("and nothing is mended", 0, x.mended());
    x.damage(1, 0, 0, 0);
    check.due("something is LOST", false, x.areAlike(0, writable));
    check.due("there", false, x.areAlike(writable, 0));
    check.due("in itself", false, x.areAlike(0, 0));
    check.outside(x, "no tree", () -> x.areAlike(3, 0));
    check.outside(x, "no other tree", () -> x.areAlike(0, 3));
    check.outside(x, "no other tree ahead", () -> x.areAlike(0, -1));
  }

  public static void main(String[] args) {
    newObject();
    branch();
    drop();
    setLimits();
    ofTree();
    areAlike();
    check.end();
  }
}
