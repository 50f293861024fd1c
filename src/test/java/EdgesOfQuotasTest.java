/** The sentences of "QUOTAS" and of the promises 17 and 18, each at its edges. */
public final class EdgesOfQuotasTest {
  private static final Check check = new Check("EdgesOfQuotasTest");

  private static void refused(String what, Check.Call call) {
    check.throwing(IllegalStateException.class, what, call);
  }

  private static void weighs(Treebark x, int tree, int refers, int own) {
    check.due("the tree " + tree + " refers to", refers, x.ofTree(tree, 1));
    check.due("the own of the tree " + tree, own, x.ofTree(tree, 2));
  }

  /** The file 0 with 4 cells in the places 0 to 3, and the file 1 of holes. */
  private static Treebark twoFiles() {
    Treebark x = new Treebark();
    x.create(0, 0);
    x.create(0, 1);
    x.write(0, 0, 0, 4, 10, 1);
    return x;
  }

  private static void counted() {
    check.promise("each extent counted once, with both copies of a MIRRORED one; those that no other tree refers to are its own");
    Treebark x = new Treebark();
    weighs(x, 0, 0, 0);
    x.create(0, 0);
    x.create(0, 1);
    weighs(x, 0, 0, 0);
    x.write(0, 0, 12, 4, 1, 1);
    x.link(0, 0, 9);
    x.clone(0, 0, 15, 1, 0, 1, 0);
    weighs(x, 0, 4, 4);
    x.punch(0, 0, 0, 16);
    weighs(x, 0, 4, 4);
    x.profile(Treebark.MIRROR);
    x.write(0, 1, 8, 4, 1, 1);
    x.write(0, 1, 4, 4, 1, 0);
    weighs(x, 0, 4 + 8 + 2, 4 + 8 + 2);
    int other = x.branch(0, true);
    weighs(x, 0, 14, 0);
    weighs(x, other, 14, 0);
    x.punch(0, 1, 9, 3);
    weighs(x, 0, 14, 0);
    weighs(x, other, 14, 0);
    x.punch(0, 1, 8, 1);
    weighs(x, 0, 6, 0);
    weighs(x, other, 14, 8);
    x.commit();
    x.drop(other);
    weighs(x, 0, 6, 6);
    x.log(0, 1);
    x.punch(0, 1, 0, 16);
    weighs(x, 0, 0, 0);
    check.due("though all is in use", 40 - 4 - 4 - 1, x.free(0));
  }

  private static void wholeDisks() {
    Treebark x = new Treebark();
    x.profile(Treebark.MIRROR);
    for (int i = 0; i < 10; i++) {
      x.create(0, i);
      x.write(0, i, 0, 4, i, 1);
    }
    weighs(x, 0, 80, 80);
    for (int tree = 1; tree < 6; tree++) {
      x.branch(0, false);
    }
    weighs(x, 5, 80, 0);
    for (int tree = 1; tree < 5; tree++) {
      x.punch(tree, 9, 0, 16);
      weighs(x, tree, 72, 0);
    }
    weighs(x, 5, 80, 0);
    x.punch(0, 9, 0, 16);
    weighs(x, 5, 80, 8);
  }

  private static void atFirst() {
    check.promise("1000 at first: no disk has so many blocks");
    Treebark x = new Treebark();
    x.limits(0, 1000, 1000);
    for (int name = 0; name < 5; name++) {
      x.create(0, name);
      for (int at = 0; at < 16; at += 4) {
        check.due("all 80 blocks", 4, x.write(0, name, at, 4, 1, 1));
      }
    }
    weighs(x, 0, 80, 80);
  }

  private static void ends() {
    check.promise("17, limits: 0 to 1000");
    Treebark x = twoFiles();
    x.branch(0, true);
    for (int wrong : new int[] {-1, 1001, Integer.MIN_VALUE, Integer.MAX_VALUE}) {
      check.throwing(IllegalArgumentException.class, "refers: " + wrong, () -> limits(x, 0, wrong, 0));
      check.throwing(IllegalArgumentException.class, "own: " + wrong, () -> limits(x, 0, 0, wrong));
      check.throwing(IllegalArgumentException.class, "of a SNAPSHOT: " + wrong, () -> limits(x, 1, wrong, wrong));
      check.throwing(IndexOutOfBoundsException.class, "of the tree 2: " + wrong, () -> limits(x, 2, wrong, wrong));
    }
    check.due("a refused one sets neither of both", 1, x.write(0, 0, 4, 1, 1, 0));
    for (int good : new int[] {0, 1, 999, 1000}) {
      check.due("both", "nothing", limits(x, 0, good, 1000 - good));
      check.due("both of a SNAPSHOT", "nothing", limits(x, 1, 1000 - good, good));
    }
    limits(x, 0, 0, 1000);
    refused("nothing is to be referred to", () -> x.write(0, 1, 0, 1, 1, 0));
    limits(x, 0, 1000, 0);
    refused("nothing is to be its own", () -> x.write(0, 1, 0, 1, 1, 0));
    limits(x, 0, 1000, 2);
    check.due("one more is", 1, x.write(0, 1, 0, 1, 1, 0));
    refused("and none beside", () -> x.write(0, 1, 1, 1, 1, 0));
  }

  private static Object limits(Treebark x, int tree, int refers, int own) {
    x.limits(tree, refers, own);
    return "nothing";
  }

  private static void writeAndRefers() {
    check.promise("write() is not done, if what it refers to would be above its limit, and above what it was");
    Treebark x = twoFiles();
    x.limits(0, 6, 1000);
    refused("one above", () -> x.write(0, 0, 4, 3, 1, 1));
    check.due("just reached", 2, x.write(0, 0, 4, 2, 1, 1));
    refused("one more", () -> x.write(0, 0, 6, 1, 1, 1));
    check.due("as many", 2, x.write(0, 0, 4, 2, 2, 1));
    x.limits(0, 5, 1000);
    check.due("above it, but as many as ahead", 2, x.write(0, 0, 4, 2, 1, 1));
    x.limits(0, 3, 1000);
    check.due("above it, but less", 1, x.write(0, 0, 4, 2, 1, 0));
    weighs(x, 0, 5, 5);
    refused("above it, and one more than ahead", () -> x.write(0, 0, 6, 1, 1, 0));
    refused("above it, and one more than ahead, in place of one", () -> x.write(0, 0, 4, 2, 1, 1));
    refused("above it, as the old extent stays for its other cells", () -> x.write(0, 0, 1, 1, 1, 0));
    weighs(x, 0, 5, 5);
    check.due("free is as it was", 75, x.free(0) + x.free(1));
    x.profile(Treebark.MIRROR);
    x.limits(0, 6, 1000);
    refused("both copies count", () -> x.write(0, 0, 6, 1, 1, 0));
    x.limits(0, 7, 1000);
    check.due("just reached by both copies", 1, x.write(0, 0, 6, 1, 1, 0));
  }

  private static void writeAndOwn() {
    check.promise("write() is not done, if its own would be above its limit, and above what it was");
    Treebark x = twoFiles();
    x.branch(0, true);
    x.limits(0, 1000, 2);
    refused("one above", () -> x.write(0, 0, 0, 3, 1, 1));
    check.due("just reached", 2, x.write(0, 0, 0, 2, 1, 1));
    weighs(x, 0, 6, 2);
    refused("one more", () -> x.write(0, 0, 2, 1, 1, 1));
    check.due("as many", 2, x.write(0, 0, 0, 2, 2, 1));
    x.limits(0, 1000, 1);
    check.due("above it, but as many as ahead", 2, x.write(0, 0, 0, 2, 1, 1));
    x.limits(0, 1000, 0);
    check.due("above it, but less", 1, x.write(0, 0, 0, 2, 1, 0));
    refused("above it, and one more than ahead", () -> x.write(0, 0, 0, 2, 1, 1));
    weighs(x, 0, 5, 1);
  }

  private static void oneOfBoth() {
    check.promise("one of both");
    Treebark x = twoFiles();
    x.branch(0, true);
    x.limits(0, 4, 1000);
    refused("refers alone", () -> x.write(0, 1, 0, 1, 1, 0));
    x.limits(0, 1000, 0);
    refused("own alone", () -> x.write(0, 1, 0, 1, 1, 0));
    x.limits(0, 5, 1);
    check.due("both just reached", 1, x.write(0, 1, 0, 1, 1, 0));
    x.limits(0, 4, 0);
    check.due("both above, and none more", 1, x.write(0, 1, 0, 1, 2, 0));
    x.limits(0, 0, 1000);
    check.due("refers above, and less, while its own is more", 4, x.write(0, 0, 0, 4, 1, 1));
    weighs(x, 0, 5, 5);
    x.limits(0, 0, 0);
    x.drop(1);
    x.branch(0, true);
    refused("refers above, and none more, while its own is above, and more", () -> x.write(0, 0, 0, 4, 2, 1));
    weighs(x, 0, 5, 0);
  }

  private static void cloneLimits() {
    check.promise("clone() is not done above a limit");
    Treebark x = twoFiles();
    int other = x.branch(0, false);
    x.write(other, 1, 0, 4, 50, 1);
    x.write(other, 1, 4, 2, 60, 1);
    x.limits(0, 5, 1000);
    refused("one above", () -> x.clone(other, 1, 4, 1, 0, 1, 0));
    x.limits(0, 6, 0);
    check.due("just reached", 1, x.clone(other, 1, 4, 1, 0, 1, 0));
    weighs(x, 0, 6, 0);
    check.due("another cell of it is no more", 1, x.clone(other, 1, 5, 1, 0, 1, 1));
    refused("another extent is", () -> x.clone(other, 1, 0, 1, 0, 1, 2));
    x.limits(0, 0, 0);
    check.due("above it, but as many as ahead", 1, x.clone(other, 1, 5, 1, 0, 1, 15));
    check.due("above it, but less", 0, x.clone(0, 1, 2, 4, 0, 0, 0));
    weighs(x, 0, 2, 0);
    refused("above it, and more", () -> x.clone(other, 0, 0, 1, 0, 0, 0));
    x.limits(other, 0, 0);
    x.limits(0, 6, 0);
    check.due("the limits of the first tree are not asked for", 1, x.clone(other, 0, 0, 1, 0, 0, 0));
    check.due("in one tree alone nothing is more", 2, x.clone(other, 1, 0, 8, other, 0, 0));
  }

  private static void dedupeLimits() {
    check.promise("dedupe() is not done above a limit, if it is to be done");
    Treebark x = twoFiles();
    int other = x.branch(0, false);
    x.write(other, 0, 0, 4, 10, 1);
    x.limits(0, 7, 1000);
    refused("one above: the old extent stays", () -> x.dedupe(other, 0, 0, 1, 0, 0, 0));
    check.due("not to be done, as it does not read alike", false, x.dedupe(other, 0, 0, 1, 0, 0, 1));
    check.due("nor with a hole", false, x.dedupe(other, 0, 0, 1, 0, 0, 4));
    check.due("as many, as the old one does not", true, x.dedupe(other, 0, 0, 4, 0, 0, 0));
    weighs(x, 0, 4, 0);
    x.write(0, 0, 0, 4, 10, 1);
    x.limits(0, 8, 0);
    check.due("just reached", true, x.dedupe(other, 0, 0, 3, 0, 0, 0));
    weighs(x, 0, 8, 4);
    x.limits(0, 0, 0);
    check.due("above it, but less", true, x.dedupe(other, 0, 3, 1, 0, 0, 3));
    weighs(x, 0, 4, 0);
    check.due("above it, but as many as ahead", true, x.dedupe(other, 0, 0, 4, 0, 0, 0));
    x.limits(other, 0, 0);
    check.due("the limits of the first tree are not asked for", true, x.dedupe(other, 0, 0, 4, 0, 0, 0));
  }

  private static void defragmentLimits() {
    check.promise("defragment() is not done above a limit");
    Treebark x = twoFiles();
    x.clone(0, 0, 0, 1, 0, 1, 0);
    x.limits(0, 7, 1000);
    refused("one above: the old extent stays for another file", () -> x.defragment(0, 0));
    check.due("a file that has one cell of it", 1, x.defragment(0, 1));
    weighs(x, 0, 5, 5);
    x.limits(0, 0, 0);
    check.due("above it, but as many as ahead", 1, x.defragment(0, 0));
    x.clone(0, 0, 0, 1, 0, 1, 0);
    weighs(x, 0, 4, 4);
    x.limits(0, 8, 1000);
    check.due("just reached", 1, x.defragment(0, 0));
    weighs(x, 0, 8, 8);
    x.branch(0, true);
    x.limits(0, 1000, 3);
    refused("one above of its own", () -> x.defragment(0, 0));
    x.limits(0, 1000, 4);
    check.due("just reached of its own", 1, x.defragment(0, 0));
    weighs(x, 0, 8, 4);
    x.limits(0, 0, 0);
    check.due("above both, but as many as ahead", 1, x.defragment(0, 0));
    x.punch(0, 0, 1, 3);
    check.due("above both, but less", 1, x.defragment(0, 0));
    weighs(x, 0, 5, 1);
    x.create(0, 5);
    check.due("holes alone", 0, x.defragment(0, 5));
    x.profile(Treebark.MIRROR);
    refused("above both, and more by the other copy", () -> x.defragment(0, 0));
  }

  private static void theTreeThatIsChanged() {
    check.promise("in the tree whose places they change");
    Treebark x = twoFiles();
    int other = x.branch(0, false);
    x.limits(other, 0, 0);
    check.due("the own of another tree may be more", 4, x.write(0, 0, 0, 4, 1, 1));
    weighs(x, other, 4, 4);
    x.limits(0, 0, 0);
    check.due("punch", 3, x.punch(0, 0, 1, 3));
    check.due("unlink", 0, x.unlink(0, 1));
    check.due("create", 2, x.create(0, 1));
    x.rename(0, 0, 1, true);
    check.due("link", 2, x.link(0, 0, 5));
    check.due("branch", 2, x.branch(0, true));
    check.due("balance", 0, x.balance(Treebark.MIRROR));
    check.due("drop", 2, x.drop(2));
    weighs(x, 0, 8, 8);
    check.due("defragment above both, but less, as it is SINGLE", 1, x.defragment(0, 1));
    weighs(x, 0, 1, 1);
  }

  public static void main(String[] args) {
    counted();
    wholeDisks();
    atFirst();
    ends();
    writeAndRefers();
    writeAndOwn();
    oneOfBoth();
    cloneLimits();
    dedupeLimits();
    defragmentLimits();
    theTreeThatIsChanged();
    check.end();
  }
}
