import java.util.List;

/** The sentences of "DISKS, EXTENTS" and of the promises 7, 11 and 25 to 30, each at its edges. */
public final class EdgesOfDisksTest {
  private static final Check check = new Check("EdgesOfDisksTest");

  private static void full(String what, Check.Call call) {
    check.throwing(IllegalStateException.class, what, call);
  }

  private static void freeIs(Treebark x, String when, int one, int other) {
    check.due("free(0) " + when, one, x.free(0));
    check.due("free(1) " + when, other, x.free(1));
    check.due("freeAnew(0) " + when, one, x.freeAnew(0));
    check.due("freeAnew(1) " + when, other, x.freeAnew(1));
  }

  /** A tree with some files of the names from 0. */
  private static Treebark files(int many) {
    Treebark x = new Treebark();
    for (int name = 0; name < many; name++) {
      x.create(0, name);
    }
    return x;
  }

  /** 4 blocks are left on each disk; the places 8 to 15 of the file 4, and the file 5 are left, too. */
  private static Treebark nearlyFull() {
    Treebark x = files(6);
    for (int i = 0; i < 18; i++) {
      x.write(0, i / 4, i % 4 * 4, 4, 10 * i, 1);
    }
    return x;
  }

  private static void fortyBlocks() {
    check.promise("there are the disks 0 and 1, each with 40 blocks");
    Treebark x = files(6);
    freeIs(x, "at first", 40, 40);
    for (int i = 0; i < 80; i++) {
      check.due("block " + i, 1, x.write(0, i / 16, i % 16, 1, i, 0));
      check.due("free(0) behind block " + i, 40 - (i + 2) / 2, x.free(0));
      check.due("free(1) behind block " + i, 40 - (i + 1) / 2, x.free(1));
    }
    freeIs(x, "when all are taken", 0, 0);
    full("one more", () -> x.write(0, 5, 0, 1, 1, 0));
    full("one more in place of one", () -> x.write(0, 0, 0, 1, 1, 0));
    for (int i = 0; i < 80; i++) {
      check.due("block " + i, i, x.read(0, i / 16, i % 16));
    }
    x.punch(0, 4, 15, 1);
    freeIs(x, "behind the last one", 0, 1);
    check.due("room for just one", 1, x.write(0, 5, 0, 1, 1, 0));
    full("and for no more", () -> x.write(0, 5, 1, 1, 1, 0));
  }

  private static void fortyBlocksMirrored() {
    Treebark x = files(3);
    x.profile(Treebark.MIRROR);
    for (int i = 0; i < 40; i++) {
      check.due("MIRRORED block " + i, 1, x.write(0, i / 16, i % 16, 1, i, 0));
    }
    freeIs(x, "when all are MIRRORED", 0, 0);
    full("one more that is MIRRORED", () -> x.write(0, 2, 15, 1, 1, 0));
    x.profile(Treebark.SINGLE);
    full("one more that is SINGLE", () -> x.write(0, 2, 15, 1, 1, 0));
    check.due("the last one", 39, x.read(0, 2, 7));
  }

  private static void cells() {
    check.promise("an extent has 1 to 4 cells, each a value, 0 to 999");
    Treebark x = files(1);
    for (int many = 1; many <= 4; many++) {
      check.due(many + " of the least value", 1, x.write(0, 0, 16 - many, many, 0, 0));
      check.due("is one extent", 1, x.ofFile(0, 0, 1));
      check.due("of as many cells", many, x.references(0, 0, 15));
      check.due(many + " of the greatest value", 1, x.write(0, 0, 16 - many, many, 999, 0));
      check.due("reads so", 999, x.read(0, 0, 15));
      x.punch(0, 0, 0, 16);
    }
    int[] wrongs = {Integer.MIN_VALUE, -1, 0, 5, 16, 17, Integer.MAX_VALUE};
    for (int many : wrongs) {
      check.throwing(IllegalArgumentException.class, many + " cells", () -> x.write(0, 0, 0, many, 1, 0));
    }
    check.due("the last one is the least value", 4, x.write(0, 0, 0, 4, 999, -333));
    check.due("which it is", 0, x.read(0, 0, 3));
    check.due("the last one is the greatest value", 4, x.write(0, 0, 0, 4, 0, 333));
    check.due("which it is", 999, x.read(0, 0, 3));
    for (int many = 2; many <= 4; many++) {
      int more = many;
      check.throwing(IllegalArgumentException.class, "one below in the cell " + many, () -> x.write(0, 0, 0, more, more - 2, -1));
      check.throwing(IllegalArgumentException.class, "one above in the cell " + many, () -> x.write(0, 0, 0, more, 1001 - more, 1));
      check.due("just not below", more, x.write(0, 0, 0, more, more - 1, -1));
      check.due("just not above", more, x.write(0, 0, 0, more, 1000 - more, 1));
    }
  }

  private static void steps() {
    check.promise("step: -999 to 999, so that all are from 0 to 999");
    Treebark x = files(1);
    check.due("the greatest step", 2, x.write(0, 0, 0, 2, 0, 999));
    check.due("behind it", 999, x.read(0, 0, 1));
    check.due("the least step", 2, x.write(0, 0, 0, 2, 999, -999));
    check.due("behind it", 0, x.read(0, 0, 1));
    check.due("the greatest step of one cell is not taken", 1, x.write(0, 0, 0, 1, 999, 999));
    check.due("nor is the least one", 1, x.write(0, 0, 0, 1, 0, -999));
    for (int step : new int[] {-1000, 1000, Integer.MIN_VALUE, Integer.MAX_VALUE}) {
      check.throwing(IllegalArgumentException.class, "a step of " + step + ", not taken", () -> x.write(0, 0, 0, 1, 500, step));
      check.throwing(IllegalArgumentException.class, "a step of " + step, () -> x.write(0, 0, 0, 3, 500, step));
    }
    for (int value : new int[] {-1, 1000, Integer.MIN_VALUE, Integer.MAX_VALUE}) {
      check.throwing(IllegalArgumentException.class, "the value " + value, () -> x.write(0, 0, 0, 1, value, 0));
    }
    check.throwing(IllegalArgumentException.class, "steps back from no value", () -> x.write(0, 0, 0, 2, 1000, -1));
    check.throwing(IllegalArgumentException.class, "steps on from no value", () -> x.write(0, 0, 0, 2, -1, 1));
  }

  /** How many blocks a file has whose places are these, each in an extent of its own, when it is defragmented. */
  private static int blocksOf(int... values) {
    Treebark x = files(1);
    for (int i = 0; i < values.length; i++) {
      x.write(0, 0, i, 1, values[i], 0);
    }
    x.defragment(0, 0);
    return x.ofTree(0, 1);
  }

  private static void packed() {
    check.promise("it takes as many blocks, or 1, if all its cells are alike");
    Treebark x = files(1);
    for (int many = 1; many <= 4; many++) {
      check.due(many + " that are alike", 1, x.write(0, 0, 0, many, 7, 0));
      check.due(many + " that are not", many, x.write(0, 0, 0, many, 7, 1));
    }
    check.due("1", 1, blocksOf(7));
    check.due("2 alike", 1, blocksOf(7, 7));
    check.due("2", 2, blocksOf(7, 8));
    check.due("3 alike", 1, blocksOf(7, 7, 7));
    check.due("3, but for the last one", 3, blocksOf(7, 7, 8));
    check.due("3, but for one between", 3, blocksOf(7, 8, 7));
    check.due("3, but for the first one", 3, blocksOf(8, 7, 7));
    check.due("4 alike", 1, blocksOf(7, 7, 7, 7));
    check.due("4, but for the last one", 4, blocksOf(7, 7, 7, 8));
    check.due("4, but for the third one", 4, blocksOf(7, 7, 8, 7));
    check.due("4, but for the second one", 4, blocksOf(7, 8, 7, 7));
    check.due("4, but for the first one", 4, blocksOf(8, 7, 7, 7));
    check.due("4 alike of 0", 1, blocksOf(0, 0, 0, 0));
    check.due("5 alike are two extents", 2, blocksOf(7, 7, 7, 7, 7));
    check.due("the fifth one is no matter of the first four", 2, blocksOf(7, 7, 7, 7, 8));
    check.due("nor the fourth one of the last ones", 1 + 2, blocksOf(7, 7, 7, 7, 7, 8));
    check.due("eight alike, but for the fifth", 1 + 4, blocksOf(7, 7, 7, 7, 8, 7, 7, 7));
  }

  private static void moreFreeBlocks() {
    check.promise("SINGLE lies on the disk with more free blocks, of the same number on the disk 0");
    Treebark x = files(1);
    x.write(0, 0, 0, 1, 1, 0);
    freeIs(x, "behind the first one: the same number was free", 39, 40);
    x.write(0, 0, 1, 2, 1, 1);
    freeIs(x, "one more was free on the disk 1", 39, 38);
    x.write(0, 0, 3, 1, 1, 0);
    freeIs(x, "one more was free on the disk 0", 38, 38);
    x.write(0, 0, 4, 4, 1, 1);
    freeIs(x, "the same number was free once more", 34, 38);
    x.write(0, 0, 8, 3, 1, 1);
    freeIs(x, "many more on the disk 1", 34, 35);
    x.write(0, 0, 11, 4, 1, 0);
    freeIs(x, "packed ones take one", 34, 34);
    check.due("the last one of the disk 0", true, x.damage(0, 0, 0, 4));
    check.due("the last one of the disk 1", true, x.damage(1, 0, 0, 11));
    check.due("which lies on that alone", false, x.damage(0, 0, 0, 11));
  }

  private static void onBoth() {
    check.promise("by the profile MIRROR on both");
    Treebark x = files(1);
    x.write(0, 0, 0, 4, 1, 1);
    x.profile(Treebark.MIRROR);
    check.due("blocks on one disk", 3, x.write(0, 0, 4, 3, 1, 1));
    freeIs(x, "with a MIRRORED one", 33, 37);
    check.due("packed", 1, x.write(0, 0, 8, 4, 1, 0));
    freeIs(x, "with a packed one, too", 32, 36);
    check.due("a copy on the disk 0", true, x.damage(0, 0, 0, 8));
    check.due("a copy on the disk 1", true, x.damage(1, 0, 0, 4));
    check.due("the tree refers to both copies", 4 + 6 + 2, x.ofTree(0, 1));
    x.punch(0, 0, 0, 16);
    freeIs(x, "behind both copies", 40, 40);
  }

  private static void fullSingle() {
    check.promise("if a disk has not so many free blocks, it is FULL");
    Treebark x = nearlyFull();
    freeIs(x, "nearly", 4, 4);
    x.write(0, 4, 8, 1, 1, 0);
    freeIs(x, "but for one", 3, 4);
    check.due("4 are just free on the disk 1", 4, x.write(0, 4, 12, 4, 1, 1));
    freeIs(x, "with none on the disk 1", 3, 0);
    full("4 are not free on the disk 0", () -> x.write(0, 5, 0, 4, 1, 1));
    check.due("3 are just free", 3, x.write(0, 5, 0, 3, 1, 1));
    freeIs(x, "with none", 0, 0);

    Treebark y = nearlyFull();
    y.write(0, 4, 8, 1, 1, 0);
    y.write(0, 4, 9, 1, 1, 0);
    freeIs(y, "with 3 on each", 3, 3);
    full("4 are free on no disk, though 6 are on both", () -> y.write(0, 5, 0, 4, 1, 1));
    check.due("but packed they are", 1, y.write(0, 5, 0, 4, 1, 0));
    check.due("3 are on the disk 1", 3, y.write(0, 5, 4, 3, 1, 1));
    freeIs(y, "with 2 on the disk 0", 2, 0);
  }

  private static void fullMirrored() {
    Treebark x = nearlyFull();
    x.profile(Treebark.MIRROR);
    check.due("4 are just free on both", 4, x.write(0, 4, 8, 4, 1, 1));
    freeIs(x, "with none", 0, 0);

    Treebark y = nearlyFull();
    y.write(0, 4, 8, 1, 1, 0);
    y.profile(Treebark.MIRROR);
    full("one too few on the disk 0", () -> y.write(0, 5, 0, 4, 1, 1));
    freeIs(y, "with one too few on the disk 0", 3, 4);
    check.due("just enough on the disk 0", 3, y.write(0, 5, 0, 3, 1, 1));
    freeIs(y, "with one left on the disk 1", 0, 1);
    full("none on the disk 0", () -> y.write(0, 5, 4, 1, 1, 0));

    Treebark z = nearlyFull();
    z.write(0, 4, 8, 1, 1, 0);
    z.write(0, 4, 9, 1, 1, 0);
    z.punch(0, 4, 8, 1);
    z.profile(Treebark.MIRROR);
    full("one too few on the disk 1", () -> z.write(0, 5, 0, 4, 1, 1));
    freeIs(z, "with one too few on the disk 1", 4, 3);
    check.due("just enough on the disk 1", 3, z.write(0, 5, 0, 3, 1, 1));
    freeIs(z, "with one left on the disk 0", 1, 0);
    full("none on the disk 1", () -> z.write(0, 5, 4, 1, 1, 0));
  }

  private static void allIsNotDone() {
    check.promise("FULL: all that the call would do is not done");
    Treebark x = nearlyFull();
    x.write(0, 4, 8, 1, 1, 0);
    x.commit();
    int copied = x.copied();
    x.profile(Treebark.MIRROR);
    full("write", () -> x.write(0, 0, 0, 4, 1, 1));
    check.due("nothing is copied", copied, x.copied());
    check.due("the places are as they were", List.of(0, 1, 2, 3), Check.places(x, 0, 0).subList(0, 4));
    x.profile(Treebark.SINGLE);
    full("defragment, though its first extents have room", () -> x.defragment(0, 0));
    check.due("nothing is copied", copied, x.copied());
    freeIs(x, "as ahead", 3, 4);
    check.due("the extents are as they were", 4, x.references(0, 0, 0));
    check.due("then it has room", 4, x.write(0, 0, 0, 4, 1, 1));
    check.due("root and node are copied then", copied + 2, x.copied());
  }

  private static void oneAfterTheOther() {
    check.promise("several extents of a call take their blocks one after the other");
    Treebark x = files(1);
    int[] values = {1, 2, 3, 4, 5, 5, 5, 5, 6, 6, 6, 6, 1, 2, 3, 4};
    for (int at = 0; at < 16; at++) {
      x.write(0, 0, at, 1, values[at], 0);
    }
    freeIs(x, "with 16 of one block", 32, 32);
    check.due("four extents", 4, x.defragment(0, 0));
    freeIs(x, "one on the disk 0, three on the disk 1", 36, 34);
    check.due("the first one on the disk 0", true, x.damage(0, 0, 0, 0));
    check.due("the second one on the disk 1", true, x.damage(1, 0, 0, 4));
    check.due("the third one on the disk 1", true, x.damage(1, 0, 0, 8));
    check.due("the last one on the disk 1, too", true, x.damage(1, 0, 0, 12));
  }

  /** The old ones keep their blocks until the call is done: a call that would fit in their place only is refused. */
  private static void neverWrittenOver() {
    check.promise("never writes over what it has written");
    Treebark x = nearlyFull();
    x.write(0, 4, 8, 4, 1, 1);
    x.write(0, 4, 12, 4, 1, 1);
    full("write on all cells of an extent", () -> x.write(0, 0, 0, 4, 2, 1));
    check.due("it is as it was", 3, x.read(0, 0, 3));
    full("defragment of one extent", () -> x.defragment(0, 0));
    x.punch(0, 4, 8, 4);
    check.due("with room for it", 4, x.write(0, 0, 0, 4, 2, 1));
    freeIs(x, "on one disk behind it", 4, 0);
  }

  private static void inUseByOneCell() {
    check.promise("an extent is in use as long as some place of a file is one of its cells");
    for (int left = 0; left < 4; left++) {
      Treebark x = files(1);
      x.write(0, 0, 4, 4, 10, 1);
      for (int at = 0; at < 4; at++) {
        if (at != left) {
          x.punch(0, 0, 4 + at, 1);
        }
      }
      freeIs(x, "by the cell " + left + " alone", 36, 40);
      check.due("which reads as it did", 10 + left, x.read(0, 0, 4 + left));
      x.punch(0, 0, 4 + left, 1);
      freeIs(x, "without", 40, 40);
    }
  }

  private static void inUseByTreesAndLog() {
    Treebark x = files(2);
    x.write(0, 0, 0, 4, 10, 1);
    x.clone(0, 0, 3, 1, 0, 1, 15);
    x.unlink(0, 0);
    freeIs(x, "by another file", 36, 40);
    int other = x.branch(0, false);
    x.unlink(0, 1);
    freeIs(x, "by another tree", 36, 40);
    x.commit();
    x.unlink(other, 1);
    freeIs(x, "by a tree as it was committed", 36, 40);
    x.drop(other);
    freeIs(x, "by a tree as it was committed, though it is not there", 36, 40);
    x.crash();
    x.log(other, 1);
    x.unlink(other, 1);
    freeIs(x, "by the log, and as it was committed", 36, 40);
    x.crash();
    x.unlink(other, 1);
    x.commit();
    freeIs(x, "without", 40, 40);
    x.create(0, 5);
    x.write(0, 5, 8, 4, 10, 1);
    x.log(0, 5);
    x.unlink(0, 5);
    freeIs(x, "by the log alone", 36, 40);
    x.commit();
    freeIs(x, "with an empty log", 40, 40);
    x.create(0, 5);
    x.write(0, 5, 8, 4, 10, 1);
    int snapshot = x.branch(0, true);
    x.punch(0, 5, 0, 16);
    freeIs(x, "by a SNAPSHOT alone", 36, 40);
    x.drop(snapshot);
    freeIs(x, "without the SNAPSHOT", 40, 40);
  }

  private static void possibleWhenFull() {
    check.promise("what is possible when they are full");
    Treebark x = nearlyFull();
    x.write(0, 4, 8, 4, 1, 1);
    x.write(0, 4, 12, 4, 1, 1);
    x.commit();
    check.due("clone", 4, x.clone(0, 0, 0, 16, 0, 5, 0));
    check.due("dedupe", true, x.dedupe(0, 4, 8, 4, 0, 4, 12));
    check.due("its blocks are kept, as they were committed", 0, x.free(0) + x.free(1));
    check.due("create", 6, x.create(0, 9));
    check.due("link", 2, x.link(0, 9, 8));
    check.due("branch", 1, x.branch(0, true));
    check.due("send", 0, x.send(1, 1));
    check.due("receive without places", 2, x.receive(1));
    check.due("log", 1, x.log(0, 5));
    check.due("defragment of holes alone", 0, x.defragment(0, 9));
    check.due("punch", 16, x.punch(0, 3, 0, 16));
    check.due("nothing is free, as it was committed", 0, x.free(0) + x.free(1));
    check.due("balance: all are SINGLE", 0, x.balance(Treebark.SINGLE));
    check.due("balance: none has room", 20, x.balance(Treebark.MIRROR));
    check.due("a crash", 1, x.crash());
    check.due("what was logged came back", 3, x.read(0, 5, 3));
    x.unlink(0, 4);
    check.due("and a commit", 1, x.commit());
    check.due("gives room", 16, x.free(0) + x.free(1));
  }

  private static void balanceEdges() {
    check.promise("26, balance: what has room");
    Treebark none = new Treebark();
    check.due("of nothing, SINGLE", 0, none.balance(Treebark.SINGLE));
    check.due("of nothing, MIRROR", 0, none.balance(Treebark.MIRROR));

    Treebark x = nearlyFull();
    x.write(0, 4, 8, 1, 1, 0);
    freeIs(x, "with one too few on the disk 0", 3, 4);
    check.due("the first one has just room on the disk 1, one block has on the disk 0", 19 - 1, x.balance(Treebark.MIRROR));
    freeIs(x, "with none on the disk 1", 3, 0);
    check.due("the first one is on both", true, x.damage(1, 0, 0, 0));
    check.due("the second one has one block too few", false, x.damage(0, 0, 0, 4));
    x.punch(0, 4, 8, 1);
    freeIs(x, "with just enough on the disk 0", 4, 0);
    check.due("the second one has room", 16, x.balance(Treebark.MIRROR));
    check.due("it is on both", true, x.damage(0, 0, 0, 4));
    freeIs(x, "with none", 0, 0);
    check.due("the other ones have not", 16, x.balance(Treebark.MIRROR));
    check.due("and back", 0, x.balance(Treebark.SINGLE));
    // The copies that were let become bad above are those that each of both had gained.
    freeIs(x, "with each one where it was at first", 4, 4);
  }

  /** A MIRRORED extent whose copies are bad as the bits tell, behind a balance that makes it SINGLE. */
  private static void balanceOfBad(int bits, int onto, int read, int amissThen) {
    Treebark x = files(1);
    x.profile(Treebark.MIRROR);
    x.write(0, 0, 0, 2, 5, 1);
    for (int disk = 0; disk < 2; disk++) {
      if ((bits >> disk & 1) == 1) {
        x.damage(disk, 0, 0, 0);
      }
    }
    check.due("it lies as it is told", 0, x.balance(Treebark.SINGLE));
    check.due("free(0) with bad ones " + bits, onto == 0 ? 38 : 40, x.free(0));
    check.due("free(1) with bad ones " + bits, onto == 1 ? 38 : 40, x.free(1));
    check.due("and reads so with bad ones " + bits, read, x.read(0, 0, 0));
    check.due("back on both with bad ones " + bits, amissThen, x.balance(Treebark.MIRROR));
    check.due("the copy that it gained is good with bad ones " + bits, 0, x.scrub());
    check.due("nothing was mended with bad ones " + bits, 0, x.mended());
  }

  private static void balanceLoses() {
    check.promise("26, balance: they lose the copy on the disk 1, or, if just that one is good, on the disk 0");
    balanceOfBad(0, 0, 5, 0);
    balanceOfBad(1, 1, 5, 0);
    balanceOfBad(2, 0, 5, 0);
    balanceOfBad(3, 0, Treebark.LOST, 1);
  }

  private static void damageEdges() {
    check.promise("27, damage: whether there is one on that disk");
    Treebark x = files(1);
    check.due("a file of holes alone", false, x.damage(0, 0, 0, 0) || x.damage(1, 0, 0, 15));
    x.write(0, 0, 15, 1, 9, 0);
    check.due("the last place, on the disk 1", false, x.damage(1, 0, 0, 15));
    check.due("it is good", 9, x.read(0, 0, 15));
    check.due("the place beside", false, x.damage(0, 0, 0, 14));
    check.due("the last place, on the disk 0", true, x.damage(0, 0, 0, 15));
    check.due("also if it is bad", true, x.damage(0, 0, 0, 15));
    check.due("it is LOST", Treebark.LOST, x.read(0, 0, 15));
    x.write(0, 0, 0, 1, 8, 0);
    check.due("the first place, on the disk 0", false, x.damage(0, 0, 0, 0));
    check.due("the first place, on the disk 1", true, x.damage(1, 0, 0, 0));
    check.due("it is LOST", Treebark.LOST, x.read(0, 0, 0));
  }

  private static void newOnesAreGood() {
    check.promise("a copy becomes bad by damage: not when it is made");
    Treebark x = files(1);
    x.profile(Treebark.MIRROR);
    for (int i = 0; i < 10; i++) {
      check.due("where bad ones were", 4, x.write(0, 0, 12, 4, i, 1));
      check.due("it is good", i + 3, x.read(0, 0, 15));
      x.damage(0, 0, 0, 12);
      x.damage(1, 0, 0, 12);
      check.due("and bad", Treebark.LOST, x.read(0, 0, 15));
    }
    check.due("nothing was mended", 0, x.mended() + x.scrub());
  }

  private static void profileEdges() {
    check.promise("25, profile: of new extents");
    Treebark x = files(1);
    x.write(0, 0, 0, 1, 9, 0);
    check.due("SINGLE at first", 0, x.profile(Treebark.MIRROR));
    check.due("an old one stays", false, x.damage(1, 0, 0, 0));
    check.due("the same once more", 1, x.profile(Treebark.MIRROR));
    for (int profile : new int[] {-1, 2, Integer.MIN_VALUE, Integer.MAX_VALUE}) {
      check.throwing(IllegalArgumentException.class, "profile(" + profile + ")", () -> x.profile(profile));
      check.throwing(IllegalArgumentException.class, "balance(" + profile + ")", () -> x.balance(profile));
    }
    check.due("a refused one changes nothing", 1, x.profile(Treebark.SINGLE));
    check.due("back", 0, x.profile(Treebark.SINGLE));
  }

  public static void main(String[] args) {
    fortyBlocks();
    fortyBlocksMirrored();
    cells();
    steps();
    packed();
    moreFreeBlocks();
    onBoth();
    fullSingle();
    fullMirrored();
    allIsNotDone();
    oneAfterTheOther();
    neverWrittenOver();
    inUseByOneCell();
    inUseByTreesAndLog();
    possibleWhenFull();
    balanceEdges();
    balanceLoses();
    damageEdges();
    newOnesAreGood();
    profileEdges();
    check.end();
  }
}
