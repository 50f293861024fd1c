/** Promises 25 to 32: disks. */
public final class DisksTest {
  private static final Check check = new Check("DisksTest");

  private static void profile() {
    check.promise("25, profile");
    Treebark x = new Treebark();
    x.create(0, 0);
    check.due("the first one", Treebark.SINGLE, x.profile(Treebark.SINGLE));
    check.due("once more", Treebark.SINGLE, x.profile(Treebark.MIRROR));
    check.argument(x, "2", () -> x.profile(2));
    check.argument(x, "-1", () -> x.profile(-1));
    x.write(0, 0, 0, 4, 1, 1);
    check.due("one copy on the disk 0", 36, x.free(0));
    check.due("one on the disk 1", 36, x.free(1));
    check.due("the one before", Treebark.MIRROR, x.profile(Treebark.SINGLE));
    check.due("extents that are there stay", 36, x.free(1));
    x.write(0, 0, 0, 4, 1, 1);
    check.due("new ones are SINGLE", 76, x.free(0) + x.free(1));
    x.write(0, 0, 4, 1, 1, 1);
    x.profile(Treebark.MIRROR);
    check.due("defragment makes by it", 2, x.defragment(0, 0));
    check.due("on both", 80 - 10, x.free(0) + x.free(1));
  }

  private static void balanceToSingle() {
    check.promise("26, balance");
    Treebark x = new Treebark();
    x.create(0, 0);
    x.profile(Treebark.MIRROR);
    x.write(0, 0, 0, 4, 1, 1);
    x.write(0, 0, 4, 3, 1, 1);
    x.write(0, 0, 8, 2, 1, 1);
    x.write(0, 0, 12, 4, 7, 0);
    x.damage(0, 0, 0, 4);
    x.damage(0, 0, 0, 8);
    x.damage(1, 0, 0, 8);
    x.damage(1, 0, 0, 12);
    int copied = x.copied();
    check.due("all lie so", 0, x.balance(Treebark.SINGLE));
    check.due("all but one stay on the disk 0", 40 - 4 - 2 - 1, x.free(0));
    check.due("where just that is good, on the disk 1", 40 - 3, x.free(1));
    check.due("it can be read", 2, x.read(0, 0, 5));
    check.due("what was bad twice is LOST", Treebark.LOST, x.read(0, 0, 8));
    check.due("where the other one was bad it is good", 7, x.read(0, 0, 12));
    check.due("nothing is mended", 0, x.mended());
    check.due("nothing is copied", copied, x.copied());
    check.due("the profile stays", Treebark.MIRROR, x.profile(Treebark.MIRROR));
    check.argument(x, "2", () -> x.balance(2));
    check.argument(x, "-1", () -> x.balance(-1));
    check.due("but one that has no good copy", 1, x.balance(Treebark.MIRROR));
    check.due("the others are on the disk 0", 40 - 4 - 3 - 2 - 1, x.free(0));
    check.due("and on the disk 1", 40 - 4 - 3 - 1, x.free(1));
    x.damage(1, 0, 0, 4);
    check.due("the new copy is good", 3, x.read(0, 0, 6));
  }

  private static void balanceToMirror() {
    Treebark x = new Treebark();
    for (int name = 0; name < 4; name++) {
      x.create(0, name);
    }
    for (int i = 0; i < 10; i++) {
      x.write(0, i / 4, i % 4 * 4, 4, 10 * i, 1);
    }
    x.write(0, 2, 8, 3, 1, 1);
    x.write(0, 2, 11, 2, 1, 1);
    x.write(0, 2, 13, 2, 1, 1);
    x.write(0, 2, 15, 1, 1, 1);
    for (int at = 0; at < 16; at += 4) {
      x.write(0, 3, at, 4, 500 + at, 1);
    }
    check.due("the disk 0", 40 - 20 - 4 - 8, x.free(0));
    check.due("the disk 1", 40 - 20 - 4 - 8, x.free(1));
    check.due("what has room, in the order in which it was made", 14, x.balance(Treebark.MIRROR));
    check.due("the first ones have both copies", true, x.damage(1, 0, 0, 0) && x.damage(0, 0, 0, 4));
    check.due("and the next ones", true, x.damage(1, 0, 0, 8) && x.damage(0, 0, 0, 12));
    check.due("the fifth one has not", false, x.damage(1, 0, 1, 0));
    check.due("nothing is left on the disk 0", 0, x.free(0));
    check.due("nor on the disk 1", 0, x.free(1));
    check.due("freeAnew(0)", 0, x.freeAnew(0));
    x.punch(0, 0, 0, 4);
    x.punch(0, 3, 0, 4);
    check.due("room again on the disk 0", 8, x.free(0));
    check.due("and on the disk 1", 4, x.free(1));
    check.due("for the ones made first that fit", 10, x.balance(Treebark.MIRROR));
  }

  private static void balanceWhatIsInUse() {
    Treebark x = new Treebark();
    x.create(0, 0);
    x.write(0, 0, 0, 4, 1, 1);
    x.commit();
    x.write(0, 0, 0, 4, 1, 1);
    x.log(0, 0);
    x.punch(0, 0, 0, 16);
    check.due("one is committed, one is logged", 0, x.balance(Treebark.MIRROR));
    check.due("both on the disk 0", 32, x.free(0));
    check.due("both on the disk 1", 32, x.free(1));
    x.limits(0, 0, 0);
    x.crash();
    x.limits(0, 0, 0);
    x.balance(Treebark.SINGLE);
    check.due("no limit matters", 0, x.balance(Treebark.MIRROR));
    check.due("they refer to both", 8, x.ofTree(0, 1));
  }

  private static void balanceByOrder() {
    Treebark x = new Treebark();
    for (int name = 0; name < 5; name++) {
      x.create(0, name);
    }
    for (int i = 0; i < 17; i++) {
      x.write(0, i / 4, i % 4 * 4, 4, i, 1);
    }
    x.punch(0, 0, 0, 4);
    x.write(0, 0, 0, 4, 900, 1);
    check.due("4 of the disk 0", 4, x.free(0));
    check.due("8 of the disk 1", 8, x.free(1));
    check.due("three find room", 14, x.balance(Treebark.MIRROR));
    check.due("the one that was made last does not", false, x.damage(1, 0, 0, 0));
    check.due("also if the row of its blocks was used again", true, x.damage(0, 0, 0, 0));
  }

  private static void damage() {
    check.promise("27, damage");
    Treebark x = new Treebark();
    x.create(0, 0);
    x.write(0, 0, 0, 4, 1, 1);
    x.branch(0, true);
    check.due("a hole", false, x.damage(0, 0, 0, 4));
    check.due("none on the disk 1", false, x.damage(1, 0, 0, 0));
    check.due("so it can be read", 1, x.read(0, 0, 0));
    check.due("one on the disk 0, in a SNAPSHOT", true, x.damage(0, 1, 0, 1));
    check.due("all cells of it are LOST", Treebark.LOST, x.read(0, 0, 3));
    check.due("once more", true, x.damage(0, 0, 0, 2));
    x.profile(Treebark.MIRROR);
    x.write(0, 0, 4, 2, 1, 1);
    check.due("one on the disk 1", true, x.damage(1, 0, 0, 5));
    check.due("it can be read", 2, x.read(0, 0, 5));
    check.due("new extents are good", 0, x.read(0, 0, 5) - 2);
    x.punch(0, 0, 4, 2);
    x.write(0, 0, 4, 2, 1, 1);
    x.damage(0, 0, 0, 4);
    check.due("also where bad ones were", 2, x.read(0, 0, 5));
    check.outside(x, "no disk", () -> x.damage(2, 0, 0, 0));
    check.outside(x, "no disk ahead", () -> x.damage(-1, 0, 0, 0));
    check.outside(x, "no tree", () -> x.damage(0, 2, 0, 0));
    check.outside(x, "no name", () -> x.damage(0, 0, 10, 0));
    check.outside(x, "no place", () -> x.damage(0, 0, 0, 16));
    check.outside(x, "no disk, of no file", () -> x.damage(2, 0, 5, 0));
    check.outside(x, "no place, of no file", () -> x.damage(0, 0, 5, -1));
    check.state(x, "no file", () -> x.damage(0, 0, 5, 0));
  }

  private static void scrub() {
    check.promise("28, scrub");
    Treebark x = new Treebark();
    check.due("nothing is there", 0, x.scrub());
    x.create(0, 0);
    x.write(0, 0, 12, 4, 1, 1);
    x.profile(Treebark.MIRROR);
    x.write(0, 0, 0, 4, 1, 1);
    x.commit();
    x.damage(0, 0, 0, 0);
    x.write(0, 0, 0, 4, 1, 1);
    x.damage(1, 0, 0, 0);
    x.log(0, 0);
    x.write(0, 0, 0, 4, 1, 1);
    x.damage(0, 0, 0, 0);
    x.write(0, 0, 4, 2, 1, 1);
    x.damage(0, 0, 0, 4);
    x.damage(1, 0, 0, 4);
    x.damage(0, 0, 0, 12);
    check.due("one of the tree, one that was committed, one that was logged", 3, x.scrub());
    check.due("mended", 3, x.mended());
    check.due("nothing is left", 0, x.scrub());
    check.due("both copies were bad", Treebark.LOST, x.read(0, 0, 4));
    check.due("it is alone", Treebark.LOST, x.read(0, 0, 12));
    x.damage(1, 0, 0, 0);
    check.due("it is really mended", 1, x.read(0, 0, 0));
    x.write(0, 0, 0, 4, 1, 1);
    check.due("one that is not in use is not mended", 0, x.scrub());
  }

  private static void free() {
    check.promise("29 and 30, free and freeAnew");
    Treebark x = new Treebark();
    x.create(0, 0);
    x.profile(Treebark.MIRROR);
    x.write(0, 0, 0, 4, 1, 1);
    x.profile(Treebark.SINGLE);
    x.write(0, 0, 4, 2, 1, 1);
    freeIs(x, 34, 36);
    x.branch(0, true);
    x.clone(0, 0, 0, 4, 0, 0, 8);
    freeIs(x, 34, 36);
    x.punch(0, 0, 0, 16);
    freeIs(x, 34, 36);
    x.commit();
    x.drop(1);
    freeIs(x, 34, 36);
    x.write(0, 0, 0, 3, 1, 1);
    freeIs(x, 34, 33);
    x.log(0, 0);
    x.punch(0, 0, 0, 16);
    freeIs(x, 34, 33);
    x.commit();
    freeIs(x, 40, 40);
    for (int disk : new int[] {-1, 2, Integer.MAX_VALUE}) {
      check.outside(x, "free(" + disk + ")", () -> x.free(disk));
      check.outside(x, "freeAnew(" + disk + ")", () -> x.freeAnew(disk));
    }
  }

  private static void freeIs(Treebark x, int one, int other) {
    check.due("free(0)", one, x.free(0));
    check.due("free(1)", other, x.free(1));
    check.due("freeAnew(0)", one, x.freeAnew(0));
    check.due("freeAnew(1)", other, x.freeAnew(1));
  }

  private static void copied() {
    check.promise("31, copied");
    Treebark x = new Treebark();
    check.due("none", 0, x.copied());
    x.create(0, 0);
    check.due("the root that was committed at first", 1, x.copied());
    x.write(0, 0, 0, 1, 1, 0);
    check.due("a node that was not", 1, x.copied());
    x.commit();
    x.branch(0, false);
    x.drop(1);
    x.limits(0, 9, 9);
    x.damage(0, 0, 0, 0);
    x.log(0, 0);
    x.dedupe(0, 0, 0, 1, 0, 0, 4);
    check.due("nothing was changed", 1, x.copied());
    x.link(0, 0, 1);
    check.due("the root, for names", 2, x.copied());
    x.punch(0, 0, 9, 1);
    check.due("the node", 3, x.copied());
    x.crash();
    check.due("what comes back is copied, and counts are not taken back", 5, x.copied());
    x.branch(0, true);
    x.create(0, 1);
    check.due("another tree has the root", 6, x.copied());
    x.write(0, 0, 0, 1, 1, 0);
    check.due("and the node, but not the new root", 7, x.copied());
    x.send(1, 1);
    x.receive(1);
    check.due("a root that is received counts", 8, x.copied());
  }

  private static void mended() {
    check.promise("32, mended");
    Treebark x = new Treebark();
    x.create(0, 0);
    x.profile(Treebark.MIRROR);
    x.write(0, 0, 0, 4, 1, 1);
    x.write(0, 0, 4, 4, 1, 1);
    check.due("none", 0, x.mended());
    x.damage(0, 0, 0, 0);
    x.damage(1, 0, 0, 4);
    x.read(0, 0, 0);
    x.read(0, 0, 4);
    check.due("one by read()", 1, x.mended());
    x.scrub();
    check.due("one by scrub()", 2, x.mended());
    x.damage(0, 0, 0, 0);
    x.commit();
    x.crash();
    x.branch(0, true);
    x.areAlike(0, 1);
    x.send(1, 1);
    x.defragment(0, 0);
    x.dedupe(1, 0, 0, 4, 0, 0, 0);
    x.balance(Treebark.SINGLE);
    x.balance(Treebark.MIRROR);
    check.due("only by these", 2, x.mended());
  }

  public static void main(String[] args) {
    profile();
    balanceToSingle();
    balanceToMirror();
    balanceWhatIsInUse();
    balanceByOrder();
    damage();
    scrub();
    free();
    copied();
    mended();
    check.end();
  }
}
