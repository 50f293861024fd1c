import java.util.List;

/** Promises 7 to 14: places. */
public final class PlacesTest {
  private static final Check check = new Check("PlacesTest");

  /** The tree 0 with the files 0 and 1 of the same names, and a SNAPSHOT 1 of it. */
  private static Treebark twoFiles() {
    Treebark x = new Treebark();
    x.create(0, 0);
    x.create(0, 1);
    return x;
  }

  private static void write() {
    check.promise("7, write");
    Treebark x = twoFiles();
    check.due("four that differ", 4, x.write(0, 0, 12, 4, 3, -1));
    check.due("read(0, 0, 15)", 0, x.read(0, 0, 15));
    check.due("four alike are packed", 1, x.write(0, 0, 0, 4, 999, 0));
    check.due("a single one", 1, x.write(0, 0, 4, 1, 0, -999));
    check.due("two", 2, x.write(0, 0, 5, 2, 0, 999));
    check.due("read(0, 0, 6)", 999, x.read(0, 0, 6));
    check.due("three down to 0", 3, x.write(0, 0, 7, 3, 998, -499));
    check.due("all of it", List.of(999, 999, 999, 999, 0, 0, 999, 998, 499, 0, 0, 0, 3, 2, 1, 0), Check.places(x, 0, 0));
    check.due("the other file is as it was", 16, x.ofFile(0, 1, 2));
    check.due("extents", 5, x.ofFile(0, 0, 1));
  }

  private static void writeCopies() {
    Treebark x = twoFiles();
    x.write(0, 0, 0, 4, 10, 1);
    check.due("what was made behind a commit is not copied", 1, x.copied());
    x.commit();
    x.write(0, 0, 1, 2, 500, 0);
    check.due("root and node are copied", 3, x.copied());
    x.write(0, 1, 0, 1, 7, 0);
    check.due("the node of another file alone", 4, x.copied());
    x.write(0, 1, 0, 1, 7, 0);
    check.due("what was copied is not again", 4, x.copied());
    check.due("cells around are kept", Check.row(10, 500, 500, 13), Check.places(x, 0, 0));
    int other = x.branch(0, false);
    x.write(other, 0, 0, 1, 1, 0);
    check.due("what another tree has is copied", 6, x.copied());
    x.write(0, 0, 0, 1, 2, 0);
    check.due("the root and the node of the other tree are its own then", 6, x.copied());
    x.write(0, 1, 0, 1, 2, 0);
    check.due("but a node that both have is copied, without the root", 7, x.copied());
    x.drop(other);
    x.write(0, 1, 0, 1, 3, 0);
    check.due("and is not behind a drop", 7, x.copied());
  }

  private static void writeLies() {
    Treebark x = twoFiles();
    x.write(0, 0, 0, 4, 10, 1);
    check.due("the first one lies on the disk 0", 36, x.free(0));
    x.write(0, 0, 4, 2, 10, 1);
    check.due("the next one on the disk with more room", 38, x.free(1));
    x.write(0, 0, 6, 1, 10, 1);
    check.due("still there", 37, x.free(1));
    x.write(0, 0, 7, 1, 10, 1);
    check.due("and there", 36, x.free(1));
    x.write(0, 0, 8, 1, 10, 1);
    check.due("of the same number it is the disk 0", 35, x.free(0));
    x.profile(Treebark.MIRROR);
    x.write(0, 0, 9, 2, 10, 1);
    check.due("MIRRORED on the disk 0", 33, x.free(0));
    check.due("and on the disk 1", 34, x.free(1));
    x.write(0, 0, 0, 3, 10, 0);
    check.due("an extent stays for one cell", 32, x.free(0));
    x.write(0, 0, 3, 1, 10, 0);
    check.due("and is free without", 40 - 1 - 2 - 1 - 1, x.free(0));
    check.due("freeAnew", x.freeAnew(0), x.free(0));
  }

  private static void writeWhenFull() {
    Treebark x = new Treebark();
    for (int name = 0; name < 5; name++) {
      x.create(0, name);
      for (int at = 0; at < 16; at += 4) {
        x.write(0, name, at, 4, 100 * name + at, 1);
      }
    }
    check.due("the disk 0 is full", 0, x.free(0));
    check.due("the disk 1 is full", 0, x.free(1));
    check.state(x, "write on full disks", () -> x.write(0, 0, 0, 4, 1, 1));
    check.state(x, "write of one block on full disks", () -> x.write(0, 0, 0, 1, 1, 1));
    x.punch(0, 4, 12, 4);
    x.punch(0, 4, 0, 4);
    check.due("room again on the disk 0", 4, x.free(0));
    check.due("and on the disk 1", 4, x.free(1));
    x.write(0, 4, 0, 3, 1, 1);
    check.due("more room on the disk 1", 4, x.write(0, 4, 12, 4, 1, 1));
    check.due("one block is left", 1, x.free(0));
    check.due("and none", 0, x.free(1));
    check.state(x, "three do not go where one is left", () -> x.write(0, 4, 3, 1 + 2, 1, 1));
    x.profile(Treebark.MIRROR);
    check.state(x, "MIRROR needs room on both", () -> x.write(0, 4, 3, 1, 1, 1));
    x.punch(0, 4, 12, 4);
    check.state(x, "of as many blocks", () -> x.write(0, 4, 12, 2, 1, 1));
    check.due("and packed it takes one", 1, x.write(0, 4, 12, 4, 1, 0));
    check.due("on the disk 0", 0, x.free(0));
    check.due("and on the disk 1", 3, x.free(1));
    x.punch(0, 4, 12, 4);
    x.profile(Treebark.SINGLE);
    x.write(0, 4, 3, 3, 1, 1);
    x.profile(Treebark.MIRROR);
    check.due("one is left on each", 2, x.free(0) + x.free(1));
    check.due("which is just enough", 1, x.write(0, 4, 12, 1, 1, 0));
  }

  private static void writeWrongly() {
    Treebark x = twoFiles();
    x.write(0, 0, 0, 4, 10, 1);
    x.branch(0, true);
    check.outside(x, "no tree", () -> x.write(2, 0, 0, 1, 1, 1));
    check.outside(x, "no tree, and too many", () -> x.write(2, 0, 0, 5, 1, 1));
    check.outside(x, "no name", () -> x.write(0, 10, 0, 1, 1, 1));
    check.outside(x, "no place", () -> x.write(0, 0, 16, 1, 1, 1));
    check.outside(x, "no place ahead", () -> x.write(0, 0, -1, 2, 1, 1));
    check.outside(x, "no place, and too many", () -> x.write(0, 0, 16, 5, 1, 1));
    check.outside(x, "the last one is no place", () -> x.write(0, 0, 13, 4, 1, 1));
    check.outside(x, "the last one is no place, and no value", () -> x.write(0, 0, 13, 4, 1000, 1));
    check.outside(x, "no place in a SNAPSHOT", () -> x.write(1, 0, 13, 4, 1, 1));
    check.argument(x, "too many", () -> x.write(0, 0, 0, 5, 1, 1));
    check.argument(x, "too many, and none of the places", () -> x.write(0, 0, 13, 5, 1, 1));
    check.argument(x, "the most int", () -> x.write(0, 0, 15, Integer.MAX_VALUE, 1, 1));
    check.argument(x, "none", () -> x.write(0, 0, 0, 0, 1, 1));
    check.argument(x, "less than none", () -> x.write(0, 0, 0, -1, 1, 1));
    check.argument(x, "a value too high", () -> x.write(0, 0, 0, 1, 1000, 0));
    check.argument(x, "a value too low", () -> x.write(0, 0, 0, 1, -1, 0));
    check.argument(x, "a step too high", () -> x.write(0, 0, 0, 1, 1, 1000));
    check.argument(x, "a step too low", () -> x.write(0, 0, 0, 1, 1, -1000));
    check.argument(x, "steps too high", () -> x.write(0, 0, 0, 4, 997, 1));
    check.argument(x, "steps too low", () -> x.write(0, 0, 0, 4, 2, -1));
    check.argument(x, "a step of the least int", () -> x.write(0, 0, 0, 3, 1, Integer.MIN_VALUE));
    check.argument(x, "too many in a SNAPSHOT", () -> x.write(1, 0, 0, 5, 1, 1));
    check.argument(x, "no value, of no file", () -> x.write(0, 5, 0, 1, 1000, 0));
    check.state(x, "no file", () -> x.write(0, 5, 0, 1, 1, 0));
    check.state(x, "a SNAPSHOT", () -> x.write(1, 0, 0, 1, 1, 0));
  }

  private static void writeLimited() {
    Treebark x = twoFiles();
    x.write(0, 0, 0, 4, 10, 1);
    x.limits(0, 5, 1000);
    check.state(x, "above the limit", () -> x.write(0, 0, 4, 2, 1, 1));
    check.due("up to the limit", 1, x.write(0, 0, 4, 2, 1, 0));
    x.limits(0, 2, 1000);
    check.state(x, "more above the limit", () -> x.write(0, 0, 6, 1, 1, 0));
    check.due("above it, but not above what it was", 1, x.write(0, 0, 4, 2, 2, 0));
    check.due("above it, but less than it was", 1, x.write(0, 0, 0, 4, 2, 0));
    x.limits(0, 1000, 1);
    check.state(x, "more of its own", () -> x.write(0, 0, 6, 1, 1, 0));
    x.branch(0, true);
    check.due("nothing is its own now", 0, x.ofTree(0, 2));
    check.due("so there is room for one", 1, x.write(0, 0, 6, 1, 1, 0));
    check.state(x, "but for no two", () -> x.write(0, 0, 7, 1, 1, 0));
    check.due("nor is it more than it was", 1, x.write(0, 0, 6, 2, 1, 0));
    x.limits(0, 1000, 0);
    check.due("above the limit of its own, but not above what it was", 1, x.write(0, 0, 6, 2, 3, 0));
    x.limits(0, 1000, 1000);
    x.profile(Treebark.MIRROR);
    x.limits(0, x.ofTree(0, 1) + 1, 1000);
    check.state(x, "both copies count", () -> x.write(0, 1, 0, 1, 1, 0));
    x.limits(0, x.ofTree(0, 1) + 2, 1000);
    check.due("up to that", 1, x.write(0, 1, 0, 1, 1, 0));
  }

  private static void punch() {
    check.promise("8, punch");
    Treebark x = twoFiles();
    x.write(0, 0, 0, 4, 10, 1);
    x.write(0, 0, 6, 2, 10, 0);
    check.due("punch(0, 0, 2, 5)", 3, x.punch(0, 0, 2, 5));
    check.due("what is left", Check.row(10, 11, 0, 0, 0, 0, 0, 10), Check.places(x, 0, 0));
    check.due("holes", 13, x.ofFile(0, 0, 2));
    check.due("the extent stays", 36, x.free(0));
    check.due("punch(0, 0, 0, 16)", 3, x.punch(0, 0, 0, 16));
    check.due("all is free", 80, x.free(0) + x.free(1));
    x.commit();
    int copied = x.copied();
    check.due("holes alone", 0, x.punch(0, 0, 15, 1));
    check.due("are told, too: root and node are copied", copied + 2, x.copied());
    x.limits(0, 0, 0);
    check.due("no limit matters", 0, x.punch(0, 1, 0, 1));
    x.branch(0, true);
    check.outside(x, "no tree", () -> x.punch(2, 0, 0, 1));
    check.outside(x, "no name", () -> x.punch(0, -1, 0, 1));
    check.outside(x, "no place", () -> x.punch(0, 0, 16, 1));
    check.outside(x, "the last one is no place", () -> x.punch(0, 0, 1, 16));
    check.argument(x, "none", () -> x.punch(0, 0, 0, 0));
    check.argument(x, "too many", () -> x.punch(0, 0, 0, 17));
    check.argument(x, "too many, and none of the places", () -> x.punch(0, 0, 9, 17));
    check.argument(x, "too many of no file", () -> x.punch(0, 5, 0, 17));
    check.state(x, "no file", () -> x.punch(0, 5, 0, 16));
    check.state(x, "a SNAPSHOT", () -> x.punch(1, 0, 0, 16));
  }

  private static void cloning() {
    check.promise("9, clone");
    Treebark x = twoFiles();
    x.write(0, 0, 0, 4, 10, 1);
    x.write(0, 0, 6, 2, 50, 0);
    x.write(0, 1, 0, 4, 90, 1);
    check.due("clone(0, 0, 2, 6, 0, 1, 1)", 2, x.clone(0, 0, 2, 6, 0, 1, 1));
    check.due("places and holes", Check.row(90, 12, 13, 0, 0, 50, 50), Check.places(x, 0, 1));
    check.due("the first one is as it was", Check.row(10, 11, 12, 13, 0, 0, 50, 50), Check.places(x, 0, 0));
    check.due("references", 6, x.references(0, 0, 0));
    check.due("no block is taken", 80 - 4 - 1 - 4, x.free(0) + x.free(1));
    check.due("one that was there ahead counts, too", 2, x.clone(0, 0, 15, 1, 0, 1, 0));
    check.due("holes alone", 0, x.clone(0, 0, 8, 8, 0, 1, 0));
    check.due("overlapping, as it was ahead", 2, x.clone(0, 0, 0, 8, 0, 0, 1));
    check.due("moved by one", Check.row(10, 10, 11, 12, 13, 0, 0, 50, 50), Check.places(x, 0, 0));
    x.clone(0, 0, 1, 8, 0, 0, 0);
    check.due("and back", Check.row(10, 11, 12, 13, 0, 0, 50, 50, 50), Check.places(x, 0, 0));
    int snapshot = x.branch(0, true);
    x.punch(0, 0, 0, 16);
    check.due("out of a SNAPSHOT", 2, x.clone(snapshot, 0, 0, 16, 0, 0, 0));
    check.due("is what it was", true, x.areAlike(0, snapshot));
    x.commit();
    int copied = x.copied();
    x.clone(snapshot, 0, 0, 1, 0, 0, 0);
    check.due("what becomes what it was is copied", copied + 2, x.copied());
    int writable = x.branch(0, false);
    check.due("into another tree", 1, x.clone(0, 0, 6, 1, writable, 1, 15));
    check.due("which alone is changed", 16, x.ofFile(0, 1, 2));
  }

  private static void cloneWrongly() {
    Treebark x = twoFiles();
    x.write(0, 0, 0, 4, 10, 1);
    x.branch(0, true);
    check.outside(x, "no tree", () -> x.clone(2, 0, 0, 1, 0, 1, 0));
    check.outside(x, "no other tree", () -> x.clone(0, 0, 0, 1, 2, 1, 0));
    check.outside(x, "no name", () -> x.clone(0, 10, 0, 1, 0, 1, 0));
    check.outside(x, "no other name", () -> x.clone(0, 0, 0, 1, 0, -1, 0));
    check.outside(x, "no place", () -> x.clone(0, 0, 16, 1, 0, 1, 0));
    check.outside(x, "no other place", () -> x.clone(0, 0, 0, 1, 0, 1, 16));
    check.outside(x, "the last one is no place", () -> x.clone(0, 0, 9, 8, 0, 1, 0));
    check.outside(x, "the other last one is no place", () -> x.clone(0, 0, 0, 8, 0, 1, 9));
    check.outside(x, "no tree, and too many", () -> x.clone(2, 0, 0, 17, 0, 1, 0));
    check.outside(x, "no other tree, and too many", () -> x.clone(0, 0, 0, 17, 2, 1, 0));
    check.outside(x, "no other place, and too many", () -> x.clone(0, 0, 0, 17, 0, 1, -1));
    check.argument(x, "too many", () -> x.clone(0, 0, 0, 17, 0, 1, 0));
    check.argument(x, "none", () -> x.clone(0, 0, 0, 0, 0, 1, 0));
    check.argument(x, "none, into a SNAPSHOT", () -> x.clone(0, 0, 0, 0, 1, 1, 0));
    check.state(x, "into a SNAPSHOT", () -> x.clone(0, 0, 0, 1, 1, 1, 0));
    check.state(x, "no file", () -> x.clone(0, 5, 0, 1, 0, 1, 0));
    check.state(x, "no other file", () -> x.clone(0, 0, 0, 1, 0, 5, 0));
    int writable = x.branch(0, false);
    x.punch(writable, 0, 0, 16);
    x.limits(writable, 3, 1000);
    check.state(x, "above a limit", () -> x.clone(0, 0, 0, 1, writable, 1, 0));
    x.limits(writable, 4, 0);
    check.due("it is not its own", 1, x.clone(0, 0, 0, 1, writable, 1, 0));
    x.limits(0, 0, 0);
    check.due("the limits of the first tree are not asked for", 1, x.clone(0, 0, 0, 1, writable, 1, 1));
  }

  private static void dedupe() {
    check.promise("10, dedupe");
    Treebark x = twoFiles();
    x.write(0, 0, 0, 4, 10, 1);
    x.write(0, 1, 4, 4, 10, 1);
    x.write(0, 1, 8, 1, 0, 0);
    x.commit();
    int copied = x.copied();
    check.due("one that does not read alike", false, x.dedupe(0, 0, 0, 4, 0, 1, 3));
    check.due("another one", false, x.dedupe(0, 0, 0, 4, 0, 1, 5));
    check.due("holes in both", false, x.dedupe(0, 0, 9, 1, 0, 1, 9));
    check.due("a hole, and a cell that reads as 0", false, x.dedupe(0, 0, 8, 1, 0, 1, 8));
    check.due("a cell that reads as 0, and a hole", false, x.dedupe(0, 1, 8, 1, 0, 0, 8));
    check.due("nothing is copied", copied, x.copied());
    check.due("two of four", true, x.dedupe(0, 0, 1, 2, 0, 1, 5));
    check.due("root and node are copied", copied + 2, x.copied());
    check.due("its extents", 3, x.ofFile(0, 1, 1));
    check.due("references", 6, x.references(0, 0, 0));
    check.due("all four", true, x.dedupe(0, 0, 0, 4, 0, 1, 4));
    check.due("once more", true, x.dedupe(0, 0, 0, 4, 0, 1, 4));
    check.due("its extents then", 2, x.ofFile(0, 1, 1));
    x.commit();
    check.due("the other one is free", 80 - 4 - 1, x.free(0) + x.free(1));
    check.due("it reads as it did", Check.row(0, 0, 0, 0, 10, 11, 12, 13), Check.places(x, 0, 1));
    copied = x.copied();
    check.due("the very same", true, x.dedupe(0, 0, 0, 1, 0, 0, 0));
    check.due("is told, too", copied + 2, x.copied());
  }

  private static void dedupeLostAndLimited() {
    Treebark x = twoFiles();
    x.write(0, 0, 0, 2, 10, 1);
    x.write(0, 1, 0, 4, 10, 1);
    x.damage(0, 0, 0, 0);
    check.due("LOST is not alike", false, x.dedupe(0, 0, 0, 2, 0, 1, 0));
    check.due("nor the other way round", false, x.dedupe(0, 1, 0, 2, 0, 0, 0));
    x.damage(1, 0, 1, 0);
    check.due("nor are both", false, x.dedupe(0, 0, 0, 2, 0, 1, 0));
    x.profile(Treebark.MIRROR);
    x.write(0, 0, 4, 2, 20, 1);
    x.write(0, 1, 4, 2, 20, 1);
    x.damage(0, 0, 0, 4);
    check.due("a good copy is enough", true, x.dedupe(0, 0, 4, 2, 0, 1, 4));
    check.due("nothing is mended by it", 0, x.mended());
    x.branch(0, true);
    int writable = x.branch(0, false);
    x.write(writable, 0, 4, 2, 20, 1);
    check.due("it refers to", 10, x.ofTree(0, 1));
    x.limits(0, 10, 1000);
    check.state(x, "above a limit, as the old extent stays", () -> x.dedupe(writable, 0, 4, 1, 0, 1, 4));
    check.due("a limit is only asked for if it is to be done", false, x.dedupe(writable, 0, 4, 1, 0, 1, 5));
    x.limits(0, 1000, 0);
    check.due("it is not its own", true, x.dedupe(writable, 0, 4, 1, 0, 1, 4));
    check.outside(x, "no tree", () -> x.dedupe(5, 0, 0, 1, 0, 1, 0));
    check.outside(x, "no other tree, and none", () -> x.dedupe(0, 0, 0, 0, 5, 1, 0));
    check.outside(x, "no name", () -> x.dedupe(0, 10, 0, 1, 0, 1, 0));
    check.outside(x, "the last one is no place", () -> x.dedupe(0, 0, 15, 2, 0, 1, 0));
    check.outside(x, "the other last one is no place", () -> x.dedupe(0, 0, 0, 2, 0, 1, 15));
    check.argument(x, "too many", () -> x.dedupe(0, 0, 0, 17, 0, 1, 0));
    check.argument(x, "none, into a SNAPSHOT", () -> x.dedupe(0, 0, 0, 0, 1, 1, 0));
    check.state(x, "into a SNAPSHOT, also if they do not read alike", () -> x.dedupe(0, 0, 8, 1, 1, 1, 0));
    check.state(x, "no file", () -> x.dedupe(0, 5, 0, 1, 0, 1, 0));
    check.state(x, "no other file", () -> x.dedupe(0, 0, 0, 1, 0, 5, 0));
  }

  private static void defragment() {
    check.promise("11, defragment");
    Treebark x = twoFiles();
    check.due("holes alone", 0, x.defragment(0, 0));
    for (int at = 0; at < 6; at++) {
      x.write(0, 0, at, 1, 10 + at, 0);
    }
    x.write(0, 0, 8, 1, 7, 0);
    x.write(0, 0, 9, 1, 7, 0);
    check.due("eight", 8, x.ofFile(0, 0, 1));
    check.due("three runs of at most four", 3, x.defragment(0, 0));
    check.due("are its extents", 3, x.ofFile(0, 0, 1));
    check.due("one of four", 4, x.references(0, 0, 3));
    check.due("one of two", 2, x.references(0, 0, 4));
    check.due("it reads as it did", Check.row(10, 11, 12, 13, 14, 15, 0, 0, 7, 7), Check.places(x, 0, 0));
    check.due("alike ones are packed", 7, x.ofTree(0, 1));
    check.due("the old ones are free", 73, x.free(0) + x.free(1));
    x.commit();
    int copied = x.copied();
    check.due("holes alone again", 0, x.defragment(0, 1));
    check.due("are told, too", copied + 2, x.copied());
    x.profile(Treebark.MIRROR);
    check.due("made by the profile", 3, x.defragment(0, 0));
    check.due("so it refers to more", 14, x.ofTree(0, 1));
    x.limits(0, 13, 1000);
    check.due("not above what it was", 3, x.defragment(0, 0));
    x.clone(0, 0, 0, 1, 0, 1, 0);
    check.state(x, "above a limit, as an old extent stays", () -> x.defragment(0, 0));
    x.limits(0, 1000, 1000);
    x.branch(0, true);
    x.limits(0, 1000, 3);
    check.state(x, "above a limit of its own", () -> x.defragment(0, 0));
    check.outside(x, "no tree", () -> x.defragment(2, 0));
    check.outside(x, "no name", () -> x.defragment(0, 10));
    check.state(x, "no file", () -> x.defragment(0, 5));
    check.state(x, "a SNAPSHOT", () -> x.defragment(1, 0));
    x.limits(0, 1000, 1000);
    x.damage(0, 0, 0, 9);
    check.due("a good copy is read", 3, x.defragment(0, 0));
    check.due("and nothing is mended", 0, x.mended());
    x.damage(0, 0, 0, 9);
    x.damage(1, 0, 0, 9);
    check.state(x, "LOST", () -> x.defragment(0, 0));
  }

  private static void defragmentWhenFull() {
    Treebark x = new Treebark();
    for (int name = 0; name < 4; name++) {
      x.create(0, name);
      for (int at = 0; at < 16; at += 4) {
        x.write(0, name, at, 4, 100 * name + at, 1);
      }
    }
    check.due("16 blocks are free", 16, x.free(0) + x.free(1));
    check.due("just enough", 4, x.defragment(0, 0));
    x.create(0, 4);
    x.write(0, 4, 0, 2, 1, 1);
    check.state(x, "old extents stay until all is made", () -> x.defragment(0, 0));
    x.unlink(0, 4);
    check.due("just enough again", 4, x.defragment(0, 0));
    x.profile(Treebark.MIRROR);
    check.state(x, "MIRRORED it is not", () -> x.defragment(0, 0));
  }

  private static void read() {
    check.promise("12, read");
    Treebark x = twoFiles();
    x.write(0, 0, 0, 4, 10, 1);
    x.profile(Treebark.MIRROR);
    x.write(0, 0, 4, 4, 20, 1);
    check.due("a hole", 0, x.read(0, 0, 15));
    check.due("a cell", 13, x.read(0, 0, 3));
    x.damage(1, 0, 0, 4);
    check.due("with a bad copy on the disk 1", 20, x.read(0, 0, 4));
    check.due("which is not met", 0, x.mended());
    x.damage(0, 0, 0, 4);
    check.due("both are bad", Treebark.LOST, x.read(0, 0, 5));
    x.write(0, 0, 4, 4, 20, 1);
    x.damage(0, 0, 0, 6);
    check.due("with a bad copy on the disk 0", 22, x.read(0, 0, 6));
    check.due("which is mended", 1, x.mended());
    check.due("and good then", 22, x.read(0, 0, 6));
    check.due("so nothing is mended", 1, x.mended());
    x.damage(1, 0, 0, 6);
    check.due("it is really good", 23, x.read(0, 0, 7));
    x.damage(0, 0, 0, 0);
    check.due("a bad one that is alone", -2, x.read(0, 0, 0));
    int snapshot = x.branch(0, true);
    check.due("in a SNAPSHOT", 21, x.read(snapshot, 0, 5));
    x.profile(Treebark.SINGLE);
    x.write(0, 1, 0, 2, 30, 1);
    check.due("it lies on the disk 1", true, x.damage(1, 0, 1, 0));
    check.due("where it is LOST", -2, x.read(0, 1, 0));
    check.due("a hole beside is none", 0, x.read(0, 1, 2));
    check.outside(x, "no tree", () -> x.read(2, 0, 0));
    check.outside(x, "no name", () -> x.read(0, 10, 0));
    check.outside(x, "no place", () -> x.read(0, 0, 16));
    check.outside(x, "no place ahead, of no file", () -> x.read(0, 5, -1));
    check.state(x, "no file", () -> x.read(0, 5, 0));
  }

  private static void ofFile() {
    check.promise("13, ofFile");
    Treebark x = twoFiles();
    x.link(0, 0, 7);
    x.write(0, 0, 0, 4, 10, 1);
    x.write(0, 0, 1, 2, 3, 1);
    x.clone(0, 0, 0, 1, 0, 0, 15);
    check.due("names", 2, x.ofFile(0, 7, 0));
    check.due("extents", 2, x.ofFile(0, 7, 1));
    check.due("holes", 11, x.ofFile(0, 7, 2));
    check.due("no extents", 0, x.ofFile(0, 1, 1));
    check.outside(x, "no tree", () -> x.ofFile(1, 0, 0));
    check.outside(x, "no name", () -> x.ofFile(0, 10, 3));
    check.argument(x, "3", () -> x.ofFile(0, 0, 3));
    check.argument(x, "-1, of no file", () -> x.ofFile(0, 5, -1));
    check.state(x, "no file", () -> x.ofFile(0, 5, 0));
  }

  private static void references() {
    check.promise("14, references");
    Treebark x = twoFiles();
    x.link(0, 0, 7);
    x.write(0, 0, 0, 4, 10, 1);
    check.due("names do not count", 4, x.references(0, 7, 0));
    check.due("a hole", 0, x.references(0, 0, 4));
    int snapshot = x.branch(0, true);
    check.due("shared ones count for each tree", 8, x.references(0, 0, 0));
    x.clone(0, 0, 0, 2, 0, 1, 3);
    check.due("other files count", 10, x.references(0, 1, 3));
    x.commit();
    x.punch(0, 0, 0, 16);
    check.due("what is committed does not", 6, x.references(snapshot, 0, 0));
    x.log(0, 1);
    check.due("nor what is logged", 6, x.references(snapshot, 0, 0));
    x.drop(snapshot);
    check.due("nor what is dropped", 2, x.references(0, 1, 4));
    check.outside(x, "no tree", () -> x.references(1, 0, 0));
    check.outside(x, "no name", () -> x.references(0, 10, 0));
    check.outside(x, "no place, of no file", () -> x.references(0, 5, 16));
    check.state(x, "no file", () -> x.references(0, 5, 0));
  }

  public static void main(String[] args) {
    write();
    writeCopies();
    writeLies();
    writeWhenFull();
    writeWrongly();
    writeLimited();
    punch();
    cloning();
    cloneWrongly();
    dedupe();
    dedupeLostAndLimited();
    defragment();
    defragmentWhenFull();
    read();
    ofFile();
    references();
    check.end();
  }
}
