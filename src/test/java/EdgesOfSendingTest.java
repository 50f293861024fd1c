import java.util.List;

/** The sentences of "SENDING" and of the promises 23 and 24, each at its edges. */
public final class EdgesOfSendingTest {
  private static final Check check = new Check("EdgesOfSendingTest");

  private static void refused(String what, Check.Call call) {
    check.throwing(IllegalStateException.class, what, call);
  }

  private static void nothingSent() {
    check.promise("24, receive: nothing was sent");
    Treebark x = new Treebark();
    x.branch(0, true);
    refused("ahead of a send", () -> x.receive(1));
    x.create(0, 0);
    x.write(0, 0, 0, 1, 5, 0);
    x.damage(0, 0, 0, 0);
    x.branch(0, true);
    refused("a send that is refused", () -> x.send(1, 2));
    refused("is none", () -> x.receive(1));
    check.due("a send of no places", 0, x.send(2, 2));
    check.due("is one", 3, x.receive(1));
  }

  private static void emptyTrees() {
    check.promise("23 and 24: trees without files");
    Treebark x = new Treebark();
    x.branch(0, true);
    check.due("nothing is sent", 0, x.send(1, 1));
    int copied = x.copied();
    check.due("receive", 2, x.receive(1));
    check.due("its root counts as one that was copied", copied + 1, x.copied());
    check.due("without names", 0, x.ofTree(2, 0));
    check.due("a SNAPSHOT", 1, x.ofTree(2, 3));
    x.create(0, 9);
    x.branch(0, true);
    check.due("a file of holes alone", 0, x.send(1, 3));
    check.due("onto an empty one", 4, x.receive(2));
    check.due("is a new one", 1, x.file(4, 9));
    check.due("of holes", 16, x.ofFile(4, 9, 2));
    check.due("which is not copied", copied + 3, x.copied());
    check.due("a file that is not there is not sent", 0, x.send(3, 1));
    check.due("so it is there no more", 5, x.receive(3));
    check.due("without names", 0, x.ofTree(5, 0));
  }

  private static void mostPlaces() {
    check.promise("all places of all files");
    Treebark x = new Treebark();
    x.branch(0, true);
    for (int name = 0; name < 10; name++) {
      x.create(0, name);
      for (int at = 0; at < 16; at += 4) {
        x.write(0, name, at, 4, 10 * name + at, 0);
      }
    }
    x.branch(0, true);
    check.due("ten times 16", 160, x.send(1, 2));
    check.due("they have just room", 3, x.receive(1));
    check.due("no block is left", 0, x.free(0) + x.free(1));
    check.due("all reads alike", true, x.areAlike(2, 3));
    for (int name = 0; name < 10; name++) {
      check.due("numbers rise as those of the files that were sent", 10 + name, x.file(3, name));
      check.due("four extents of each", 4, x.ofFile(3, name, 1));
    }
    check.due("all places differ", 160, x.send(1, 3));
    check.due("none", 0, x.send(3, 3));
    x.drop(3);
    x.unlink(0, 0);
    x.create(0, 0);
    x.write(0, 0, 0, 1, 1, 0);
    x.send(1, 2);
    refused("one block too few", () -> x.receive(1));
    check.due("nothing is taken", 39, x.free(0) + x.free(1));
    x.unlink(0, 0);
    check.due("no number was given", 21, x.create(0, 0));
  }

  /** How many extents are made of places that are sent onto a file of holes. */
  private static int extentsOf(int... values) {
    Treebark x = new Treebark();
    x.create(0, 0);
    x.branch(0, true);
    for (int at = 0; at < values.length; at++) {
      if (values[at] > 0) {
        x.write(0, 0, at, 1, values[at], 0);
      }
    }
    x.branch(0, true);
    x.send(1, 2);
    x.receive(1);
    check.due("it reads alike", true, x.areAlike(2, 3));
    return x.ofFile(3, 0, 1);
  }

  private static void runs() {
    check.promise("cells of new extents, one for each run of at most 4 such places that follow one another");
    check.due("none", 0, extentsOf());
    check.due("one", 1, extentsOf(1));
    check.due("three", 1, extentsOf(1, 2, 3));
    check.due("four", 1, extentsOf(1, 2, 3, 4));
    check.due("five", 2, extentsOf(1, 2, 3, 4, 5));
    check.due("eight", 2, extentsOf(1, 2, 3, 4, 5, 6, 7, 8));
    check.due("nine", 3, extentsOf(1, 2, 3, 4, 5, 6, 7, 8, 9));
    check.due("all", 4, extentsOf(1, 2, 3, 4, 5, 6, 7, 8, 9, 10, 11, 12, 13, 14, 15, 16));
    check.due("the last one", 1, extentsOf(0, 0, 0, 0, 0, 0, 0, 0, 0, 0, 0, 0, 0, 0, 0, 1));
    check.due("one, and three", 2, extentsOf(1, 0, 2, 3, 4));
    check.due("not by four places", 1, extentsOf(0, 0, 1, 2, 3, 4));
    check.due("each other one", 8, extentsOf(1, 0, 2, 0, 3, 0, 4, 0, 5, 0, 6, 0, 7, 0, 8));
  }

  private static void runsAround() {
    Treebark x = new Treebark();
    x.create(0, 0);
    for (int at = 0; at < 16; at += 4) {
      x.write(0, 0, at, 4, 10 + at, 1);
    }
    x.branch(0, true);
    x.write(0, 0, 0, 2, 50, 1);
    x.write(0, 0, 3, 2, 53, 1);
    x.punch(0, 0, 6, 1);
    x.write(0, 0, 5, 1, 55, 0);
    x.write(0, 0, 7, 1, 57, 0);
    x.branch(0, true);
    check.due("six cells and a hole, but for the place 2", 7, x.send(1, 2));
    int free = x.free(0) + x.free(1);
    x.receive(1);
    check.due("each takes as many blocks as it has cells", 2 + 3 + 1, free - x.free(0) - x.free(1));
    check.due("two, three, one, and the old ones of 2 and of the last places", 3 + 1 + 2, x.ofFile(3, 0, 1));
    check.due("two", 2, x.references(3, 0, 0));
    check.due("three", 3, x.references(3, 0, 5));
    check.due("one", 1, x.references(3, 0, 7));
    check.due("a hole ends a run", 0, x.references(3, 0, 6));
    check.due("it reads alike", true, x.areAlike(2, 3));
  }

  private static void whatIsSent() {
    check.promise("its places that are not the very same cell of the very same extent there, nor holes in both");
    Treebark x = new Treebark();
    x.create(0, 0);
    x.write(0, 0, 0, 4, 7, 0);
    x.write(0, 0, 15, 1, 7, 0);
    x.branch(0, true);
    x.clone(0, 0, 0, 1, 0, 0, 1);
    x.clone(0, 0, 15, 1, 0, 0, 2);
    x.write(0, 0, 15, 1, 7, 0);
    x.write(0, 0, 14, 1, 0, 0);
    x.punch(0, 0, 3, 1);
    x.branch(0, true);
    check.due("another cell, two other extents, a cell for a hole, a hole for a cell", 5, x.send(1, 2));
    check.due("and back", 5, x.send(2, 1));
    check.due("the very same", 0, x.send(2, 2));
    x.punch(0, 0, 0, 16);
    x.branch(0, true);
    check.due("holes for cells", 5, x.send(2, 3));
    check.due("received", 4, x.receive(2));
    check.due("are holes", 16, x.ofFile(4, 0, 2));
    x.drop(4);
    x.unlink(0, 0);
    x.create(0, 0);
    x.clone(1, 0, 0, 16, 0, 0, 0);
    x.branch(0, true);
    check.due("without a file of its number: all that are no hole, though they are the very same", 5, x.send(1, 4));
  }

  /** Each place with another cell of the same extent, which reads alike. */
  private static void whichCell() {
    Treebark x = new Treebark();
    x.create(0, 0);
    x.write(0, 0, 0, 4, 7, 0);
    x.branch(0, true);
    for (int at = 0; at < 4; at++) {
      x.clone(1, 0, 0, 4, 0, 0, 0);
      int copied = x.branch(0, true);
      check.due("the very same cells", 0, x.send(1, copied));
      x.drop(copied);
      x.clone(1, 0, (at + 1) % 4, 1, 0, 0, at);
      int changed = x.branch(0, true);
      check.due("another cell in the place " + at, 1, x.send(1, changed));
      check.due("which reads alike", true, x.areAlike(1, changed));
      x.drop(changed);
    }
  }

  private static void sentTo() {
    check.promise("23, send: a SNAPSHOT, another one, or the same");
    Treebark x = new Treebark();
    x.create(0, 0);
    x.branch(0, true);
    x.branch(0, false);
    x.branch(0, true);
    check.due("the same", 0, x.send(1, 1));
    check.due("another one", 0, x.send(1, 3));
    refused("from one to be written", () -> x.send(0, 1));
    refused("to one to be written", () -> x.send(1, 2));
    refused("both to be written", () -> x.send(2, 0));
    for (int tree : new int[] {-1, 4, 6, Integer.MIN_VALUE, Integer.MAX_VALUE}) {
      check.throwing(IndexOutOfBoundsException.class, "from " + tree, () -> x.send(tree, 1));
      check.throwing(IndexOutOfBoundsException.class, "to " + tree, () -> x.send(1, tree));
      check.throwing(IndexOutOfBoundsException.class, "from one to be written to " + tree, () -> x.send(0, tree));
      check.throwing(IndexOutOfBoundsException.class, "receive(" + tree + ")", () -> x.receive(tree));
    }
    refused("receive onto one to be written", () -> x.receive(0));
    check.due("receive onto a SNAPSHOT", 4, x.receive(3));
    check.due("of what was received, too", 0, x.send(4, 4));
    check.due("onto that", 5, x.receive(4));
    refused("a seventh one", () -> x.receive(1));
    refused("a seventh one, onto one to be written", () -> x.receive(0));
  }

  private static void inPlaceOfBefore() {
    check.promise("in place of what was sent before");
    Treebark x = new Treebark();
    x.create(0, 0);
    x.branch(0, true);
    x.write(0, 0, 0, 1, 5, 0);
    x.branch(0, true);
    x.write(0, 0, 0, 1, 6, 0);
    x.write(0, 0, 1, 1, 6, 0);
    x.create(0, 1);
    x.branch(0, true);
    check.due("two places", 2, x.send(1, 3));
    check.due("one place", 1, x.send(1, 2));
    x.receive(1);
    check.due("the last one", 5, x.read(4, 0, 0));
    check.due("nothing of the other one", 15, x.ofFile(4, 0, 2));
    check.due("nor of its files", 1, x.ofTree(4, 0));
    x.drop(4);
    x.damage(0, 3, 0, 0);
    x.damage(1, 3, 0, 0);
    refused("one that is LOST", () -> x.send(2, 3));
    x.receive(1);
    check.due("leaves what was sent", 5, x.read(4, 0, 0));
    x.drop(1);
    x.drop(2);
    x.drop(3);
    x.commit();
    x.crash();
    check.due("it stays without the trees, and again and again", 1, x.receive(4));
    check.due("onto another one", 5, x.read(1, 0, 0));
    check.due("as its value, in an extent of its own", 1, x.ofTree(1, 2));
  }

  /** What was sent with other names, or with more files and places, leaves nothing behind. */
  private static void nothingOfBefore() {
    Treebark x = new Treebark();
    x.create(0, 5);
    x.write(0, 5, 3, 1, 5, 0);
    x.branch(0, true);
    for (int name = 0; name < 10; name++) {
      if (name != 5) {
        x.create(0, name);
        x.write(0, name, 0, 1, name, 0);
      }
    }
    x.branch(0, true);
    for (int i = 0; i < 5; i++) {
      check.due("nine files", 9, x.send(1, 2));
      check.due("nine files less", 0, x.send(2, 1));
      check.due("nine files once more", 9, x.send(1, 2));
      check.due("one file", 0, x.send(1, 1));
    }
    check.due("just one", 3, x.receive(1));
    check.due("its name", 32, x.ofTree(3, 0));
    check.due("its places", 5, x.read(3, 5, 3));
    check.due("and no others", 15, x.ofFile(3, 5, 2));
    check.due("no number was given", 10, x.create(x.branch(1, false), 0));
  }

  private static void lowestName() {
    check.promise("in the first one the lowest name of the file with its number: each one becomes that which it has there");
    Treebark x = new Treebark();
    x.create(0, 5);
    x.write(0, 5, 0, 1, 5, 0);
    x.link(0, 5, 3);
    x.link(0, 5, 9);
    x.branch(0, true);
    x.unlink(0, 3);
    x.unlink(0, 9);
    x.link(0, 5, 0);
    x.create(0, 3);
    x.write(0, 3, 15, 1, 3, 0);
    x.branch(0, true);
    // Of the file 0 the name 3 is told, of the file 1 none.
    check.due("the places of the file 1", 1, x.send(1, 2));
    check.due("onto the second one", 3, x.receive(2));
    check.due("the name 3 is of another one there", 1, x.file(3, 5));
    check.due("which has its names", 2, x.ofFile(3, 0, 0));
    check.due("and its places", 3, x.read(3, 0, 15));
    check.due("the file of which none was told is a new one", 2, x.file(3, 3));
    check.due("with what was sent alone", List.of(0, 3), List.of(x.read(3, 3, 0), x.read(3, 3, 15)));
    check.due("onto the first one", 4, x.receive(1));
    check.due("the lowest name 3 has there the file", 0, x.file(4, 0));
    check.due("with its places", 5, x.read(4, 5, 0));
    check.due("and a new one", 3, x.file(4, 3));
    check.due("a name that was of another file there is just of this one", 1, x.ofFile(4, 3, 0));
  }

  private static void ofNone() {
    check.promise("or, if that is of none, one ahead became that, or none was told, a new one, without places");
    Treebark x = new Treebark();
    for (int name = 0; name < 3; name++) {
      x.create(0, name);
      x.write(0, name, 15, 1, 10 + name, 0);
    }
    x.branch(0, true);
    x.unlink(0, 1);
    x.unlink(0, 2);
    x.link(0, 0, 1);
    x.link(0, 0, 2);
    x.branch(0, true);
    // Of the files 0, 1 and 2 the names 0, 1 and 2 are told, all of which are of the file 0 there.
    check.due("no places", 0, x.send(1, 1));
    int copied = x.copied();
    x.receive(2);
    check.due("the first one is that", 0, x.file(3, 0));
    check.due("the second one is a new one", 3, x.file(3, 1));
    check.due("the third one is a new one, too", 4, x.file(3, 2));
    check.due("places of the first one", 10, x.read(3, 0, 15));
    check.due("none of the second one", 16, x.ofFile(3, 1, 2));
    check.due("none of the third one", 16, x.ofFile(3, 2, 2));
    check.due("only the root counts as copied", copied + 1, x.copied());
    x.drop(3);
    x.unlink(0, 0);
    x.branch(0, true);
    x.receive(3);
    check.due("the lowest name of the first one is of none", 5, x.file(4, 0));
    check.due("so the second one is that", 0, x.file(4, 1));
    check.due("the third one is a new one", 6, x.file(4, 2));
    check.due("places of the second one", 10, x.read(4, 1, 15));
  }

  private static void counts() {
    check.promise("the root counts as one that was copied, and each node of a file there of which places were sent");
    Treebark x = new Treebark();
    for (int name = 0; name < 4; name++) {
      x.create(0, name);
      x.write(0, name, 0, 1, name, 0);
    }
    x.branch(0, true);
    x.write(0, 0, 0, 1, 50, 0);
    x.punch(0, 1, 0, 1);
    x.link(0, 2, 9);
    x.create(0, 5);
    x.write(0, 5, 0, 1, 50, 0);
    x.branch(0, true);
    check.due("a cell, a hole, and a new one", 3, x.send(1, 2));
    int copied = x.copied();
    x.receive(1);
    check.due("the root, the nodes 0 and 1: not 2, whose names are others, nor a new one", copied + 3, x.copied());
    x.drop(3);
    x.drop(2);
    x.drop(1);
    x.branch(0, true);
    x.unlink(0, 1);
    x.branch(0, true);
    x.receive(2);
    check.due("the root and the node 0, as the name 1 is of none there", copied + 5 + 1, x.copied());
    x.commit();
    x.create(0, 8);
    check.due("and what is received is shared as it is committed", copied + 7, x.copied());
  }

  private static void asAnotherTree() {
    check.promise("another one like it: limits are not asked for, and are 1000; it is a tree beside the others");
    Treebark x = new Treebark();
    x.create(0, 0);
    x.limits(0, 0, 0);
    x.branch(0, true);
    x.limits(0, 1000, 1000);
    x.write(0, 0, 0, 4, 1, 1);
    x.branch(0, true);
    x.limits(2, 0, 0);
    x.send(1, 2);
    x.branch(0, false);
    x.limits(3, 0, 0);
    x.drop(3);
    check.due("above all limits, also of one that had its number", 3, x.receive(1));
    x.branch(3, false);
    check.due("limits are 1000", 4, x.write(4, 0, 4, 4, 1, 1));
    x.limits(0, 1000, 0);
    x.drop(4);
    x.branch(3, false);
    check.due("both", 4, x.write(4, 0, 4, 4, 1, 1));
    x.limits(0, 1000, 1000);
    check.due("blocks of its own, as of the one that was made of it", 0, x.ofTree(3, 2));
    check.due("it refers to", 4, x.ofTree(3, 1));
    x.drop(4);
    check.due("and then of its own", 4, x.ofTree(3, 2));
    refused("it cannot be changed", () -> x.write(3, 0, 0, 1, 1, 1));
    int copied = x.copied();
    x.crash();
    check.throwing(IndexOutOfBoundsException.class, "it is gone, if it was not committed", () -> x.ofTree(3, 0));
    check.due("with its blocks", 80, x.free(0) + x.free(1));
    check.due("its count stays", copied, x.copied());
  }

  private static void fullByOne() {
    check.promise("24, receive: a disk is FULL; several extents take their blocks one after the other");
    Treebark x = new Treebark();
    for (int name = 0; name < 6; name++) {
      x.create(0, name);
    }
    x.branch(0, true);
    x.write(0, 5, 0, 4, 1, 1);
    x.write(0, 5, 4, 1, 1, 1);
    x.branch(0, true);
    check.due("an extent of 4 blocks, and one of 1", 5, x.send(1, 2));
    x.drop(2);
    x.unlink(0, 5);
    for (int i = 0; i < 19; i++) {
      x.write(0, i / 4, i % 4 * 4, 4, i, 1);
    }
    check.due("none is left on the disk 0", 0, x.free(0));
    check.due("4 are left on the disk 1", 4, x.free(1));
    int copied = x.copied();
    refused("the first one has room, the second one has not", () -> x.receive(1));
    check.due("nothing is copied", copied, x.copied());
    check.due("the first one is not taken", 4, x.free(1));
    x.punch(0, 4, 8, 4);
    x.write(0, 4, 8, 3, 1, 1);
    check.due("with one left on the disk 0", 2, x.receive(1));
    check.due("none is left then", 0, x.free(0) + x.free(1));
    check.due("root and node are copied", copied + 2, x.copied());
    check.due("the first one lies on the disk 1", true, x.damage(1, 2, 5, 0));
    check.due("the second one on the disk 0", true, x.damage(0, 2, 5, 4));
  }

  public static void main(String[] args) {
    nothingSent();
    emptyTrees();
    mostPlaces();
    runs();
    runsAround();
    whatIsSent();
    whichCell();
    sentTo();
    inPlaceOfBefore();
    nothingOfBefore();
    lowestName();
    ofNone();
    counts();
    asAnotherTree();
    fullByOne();
    check.end();
  }
}
