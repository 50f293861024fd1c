/** Promises 20 to 24: commits, crashes, sending. */
public final class CommitsTest {
  private static final Check check = new Check("CommitsTest");

  private static void commit() {
    check.promise("20, commit");
    Treebark x = new Treebark();
    check.due("one tree", 1, x.commit());
    x.create(0, 0);
    x.write(0, 0, 0, 4, 10, 1);
    x.branch(0, true);
    x.log(0, 0);
    check.due("two trees", 2, x.commit());
    check.due("the log is empty", 0, x.crash());
    check.due("both come back", 13, x.read(1, 0, 3));
    x.write(0, 0, 0, 4, 10, 0);
    check.due("the old extent stays for the SNAPSHOT", 36, x.free(0));
    x.drop(1);
    check.due("and for what was committed", 36, x.free(0));
    check.due("one tree", 1, x.commit());
    check.due("then it is free", 40, x.free(0));
    x.log(0, 0);
    check.due("a log starts anew", 1, x.log(0, 0));
  }

  private static void log() {
    check.promise("21, log");
    Treebark x = new Treebark();
    for (int name = 0; name < 3; name++) {
      x.create(0, name);
    }
    x.link(0, 0, 5);
    x.branch(0, true);
    check.due("log(0, 0)", 1, x.log(0, 0));
    check.due("log(0, 1)", 2, x.log(0, 1));
    check.due("the same file by another name", 2, x.log(0, 5));
    check.due("the same file in another tree, a SNAPSHOT", 3, x.log(1, 0));
    check.due("once more", 3, x.log(1, 5));
    check.outside(x, "no tree", () -> x.log(2, 0));
    check.outside(x, "no name", () -> x.log(0, 10));
    check.outside(x, "no name ahead", () -> x.log(0, -1));
    check.state(x, "no file", () -> x.log(0, 7));
    check.due("refused ones are not in it", 3, x.log(0, 0));
    x.write(0, 2, 0, 4, 1, 1);
    x.log(0, 2);
    x.punch(0, 2, 0, 16);
    check.due("what is logged is in use", 36, x.free(0));
    check.due("freeAnew", 36, x.freeAnew(0));
    check.due("in place of an earlier one", 4, x.log(0, 2));
    check.due("so it is free", 40, x.free(0));
    x.drop(1);
    x.branch(0, false);
    check.due("trees are known by their numbers alone", 4, x.log(1, 0));
    int copied = x.copied();
    x.log(0, 0);
    check.due("nothing is copied", copied, x.copied());
  }

  private static void crash() {
    check.promise("22, crash");
    Treebark x = new Treebark();
    x.create(0, 0);
    x.create(0, 1);
    x.write(0, 0, 0, 4, 10, 1);
    x.commit();
    x.write(0, 0, 0, 4, 20, 1);
    x.unlink(0, 1);
    x.branch(0, false);
    check.due("nothing was logged", 0, x.crash());
    check.due("places come back", 13, x.read(0, 0, 3));
    check.due("names come back", 1, x.file(0, 1));
    check.outside(x, "trees are gone", () -> x.file(1, 0));
    check.due("blocks are free", 80 - 4, x.free(0) + x.free(1));
    x.write(0, 0, 0, 4, 20, 1);
    x.log(0, 0);
    x.write(0, 0, 0, 4, 30, 1);
    x.write(0, 1, 0, 4, 30, 1);
    int copied = x.copied();
    check.due("one comes back", 1, x.crash());
    check.due("as it was logged", 23, x.read(0, 0, 3));
    check.due("the other one as it was committed", 16, x.ofFile(0, 1, 2));
    check.due("root and node are copied", copied + 2, x.copied());
    check.due("all is committed", 0, x.crash());
    check.due("with what came back", 23, x.read(0, 0, 3));
    x.log(0, 0);
    x.log(0, 1);
    copied = x.copied();
    check.due("both as they were", 2, x.crash());
    check.due("are copied, too, with one root", copied + 3, x.copied());
    x.write(0, 0, 4, 1, 1, 0);
    x.write(0, 0, 4, 1, 1, 0);
    check.due("once more behind the crash", copied + 5, x.copied());
    x.unlink(0, 0);
    x.unlink(0, 1);
    x.commit();
    check.due("and all is free without them", 80, x.free(0) + x.free(1));
  }

  private static void crashWithNames() {
    Treebark x = new Treebark();
    x.create(0, 0);
    x.create(0, 1);
    x.write(0, 1, 0, 1, 1, 0);
    x.commit();
    x.rename(0, 0, 3, false);
    x.unlink(0, 1);
    x.link(0, 3, 1);
    x.log(0, 3);
    check.due("one comes back", 1, x.crash());
    check.due("with just its names", 2 + 8, x.ofTree(0, 0));
    check.due("also that of another file", 0, x.file(0, 1));
    check.due("which is gone", 40, x.free(0));
    x.create(0, 5);
    x.write(0, 5, 0, 2, 7, 1);
    x.log(0, 5);
    x.unlink(0, 5);
    int copied = x.copied();
    check.due("a file that is not there", 1, x.crash());
    check.due("is made with its number", 2, x.file(0, 5));
    check.due("and its places", 8, x.read(0, 5, 1));
    check.due("only the root is copied", copied + 1, x.copied());
    check.due("its number does not come again", 3, x.create(0, 6));
    x.crash();
    check.due("nor that of one that is gone", 4, x.create(0, 6));
  }

  private static void crashInOrder() {
    Treebark x = new Treebark();
    x.create(0, 0);
    x.create(0, 1);
    x.commit();
    x.log(0, 0);
    x.rename(0, 0, 1, true);
    x.log(0, 0);
    check.due("both come back", 2, x.crash());
    check.due("the last one has the name", 1, x.file(0, 0));
    check.due("the other one is gone", 1, x.ofTree(0, 0));
    x.create(0, 1);
    x.commit();
    x.log(0, 0);
    x.rename(0, 0, 1, true);
    x.log(0, 0);
    x.rename(0, 0, 1, true);
    x.log(0, 0);
    x.crash();
    check.due("what is logged again is the last one", 1, x.file(0, 0));
    x.create(0, 1);
    x.commit();
    x.log(0, 1);
    int there = x.file(0, 0);
    x.unlink(0, 0);
    x.rename(0, 1, 0, false);
    x.log(0, 0);
    x.unlink(0, 0);
    x.create(0, 0);
    x.log(0, 0);
    int made = x.file(0, 0);
    check.due("one that is gone came back, too", 2, x.crash());
    check.due("none of them is there at the end but the last", made, x.file(0, 0));
    check.due("another one than it was", true, made != there);
  }

  private static void crashTrees() {
    Treebark x = new Treebark();
    x.create(0, 0);
    x.write(0, 0, 0, 4, 10, 1);
    x.branch(0, false);
    x.branch(0, true);
    x.limits(1, 7, 8);
    x.commit();
    x.write(1, 0, 0, 1, 99, 0);
    x.log(1, 0);
    x.log(2, 0);
    x.branch(0, false);
    x.log(3, 0);
    x.drop(2);
    x.branch(1, false);
    x.log(2, 0);
    x.limits(1, 9, 9);
    x.drop(1);
    int copied = x.copied();
    check.due("not in a SNAPSHOT, nor in a tree that is not there", 1, x.crash());
    check.due("in the tree of its number", 99, x.read(1, 0, 0));
    check.due("root and node are copied, which the trees shared", copied + 2, x.copied());
    check.due("others share them still", 10, x.read(0, 0, 0));
    check.due("trees come back", 3, x.commit());
    check.due("SNAPSHOTS come back as such", 1, x.ofTree(2, 3));
    x.write(1, 0, 1, 2, 1, 1);
    check.state(x, "limits come back", () -> x.write(1, 0, 4, 1, 1, 1));
    x.drop(2);
    x.commit();
    x.branch(0, true);
    x.log(2, 0);
    check.due("a tree of that number that is not there then", 0, x.crash());
    check.due("the log is empty", 1, x.log(0, 0));
  }

  private static void crashLeaves() {
    Treebark x = new Treebark();
    x.profile(Treebark.MIRROR);
    x.create(0, 0);
    x.write(0, 0, 0, 4, 10, 1);
    x.commit();
    x.damage(0, 0, 0, 0);
    x.crash();
    check.due("the profile stays", Treebark.MIRROR, x.profile(Treebark.SINGLE));
    check.due("bad copies stay so", 1, x.scrub());
    x.crash();
    check.due("mended ones stay so", 0, x.scrub());
    check.due("counts stay", 1, x.mended());
    x.damage(0, 0, 0, 0);
    x.damage(1, 0, 0, 0);
    x.log(0, 0);
    x.crash();
    check.due("what is LOST is so behind a crash", Treebark.LOST, x.read(0, 0, 0));
    x.balance(Treebark.SINGLE);
    x.crash();
    check.due("where copies lie stays", 40, x.free(1));
    x.punch(0, 0, 0, 16);
    x.branch(0, true);
    x.send(1, 1);
    x.crash();
    x.branch(0, true);
    check.due("what was sent stays", 2, x.receive(1));
  }

  private static void send() {
    check.promise("23, send");
    Treebark x = new Treebark();
    x.create(0, 0);
    x.create(0, 1);
    x.write(0, 0, 0, 4, 10, 1);
    x.write(0, 1, 0, 2, 5, 0);
    x.branch(0, true);
    check.due("the same one", 0, x.send(1, 1));
    x.write(0, 0, 1, 1, 11, 0);
    x.punch(0, 0, 3, 2);
    x.clone(0, 0, 2, 1, 0, 0, 6);
    x.clone(0, 1, 1, 1, 0, 1, 0);
    x.link(0, 1, 7);
    x.create(0, 2);
    x.write(0, 2, 3, 3, 1, 1);
    x.create(0, 8);
    x.branch(0, true);
    check.due("other extents, holes, other cells, new files", 1 + 1 + 1 + 1 + 3, x.send(1, 2));
    check.due("the other way round", 1 + 1 + 1 + 1, x.send(2, 1));
    x.unlink(0, 0);
    x.create(0, 0);
    x.clone(1, 0, 0, 4, 0, 0, 0);
    x.branch(0, true);
    check.due("a file of another number is a new one", 4, x.send(2, 3));
    x.damage(0, 2, 2, 3);
    x.damage(1, 2, 2, 3);
    check.state(x, "a new place is LOST", () -> x.send(1, 2));
    check.due("one that is not sent may be", 0, x.send(2, 2));
    check.outside(x, "no tree", () -> x.send(4, 1));
    check.outside(x, "no other tree", () -> x.send(1, 4));
    check.outside(x, "no other tree, of none that is a SNAPSHOT", () -> x.send(0, -1));
    check.state(x, "no SNAPSHOT", () -> x.send(0, 1));
    check.state(x, "no other SNAPSHOT", () -> x.send(1, 0));
  }

  private static void sendKeeps() {
    Treebark x = new Treebark();
    x.profile(Treebark.MIRROR);
    x.create(0, 0);
    x.branch(0, true);
    x.write(0, 0, 0, 2, 10, 1);
    x.branch(0, true);
    x.write(0, 0, 0, 2, 20, 1);
    x.branch(0, true);
    x.send(1, 2);
    x.damage(0, 3, 0, 0);
    check.due("a good copy is enough", 2, x.send(1, 3));
    check.due("nothing is mended", 0, x.mended());
    x.send(1, 2);
    x.damage(1, 3, 0, 0);
    check.state(x, "LOST", () -> x.send(1, 3));
    check.due("what was sent before stays", 4, x.receive(1));
    check.due("just that", 11, x.read(4, 0, 1));
    x.damage(0, 2, 0, 0);
    x.damage(1, 2, 0, 0);
    x.drop(2);
    check.due("values are kept, not extents", 2, x.receive(1));
    check.due("so they can be read", 10, x.read(2, 0, 0));
  }

  private static void receiveLike() {
    check.promise("24, receive");
    Treebark x = new Treebark();
    x.create(0, 0);
    x.create(0, 1);
    x.write(0, 0, 0, 4, 10, 1);
    x.write(0, 1, 0, 4, 50, 1);
    x.limits(0, 100, 100);
    x.branch(0, true);
    x.write(0, 0, 2, 4, 20, 1);
    x.write(0, 0, 6, 2, 24, 0);
    x.write(0, 0, 8, 1, 24, 0);
    x.punch(0, 0, 0, 1);
    x.link(0, 1, 9);
    x.unlink(0, 1);
    x.create(0, 5);
    x.branch(0, true);
    check.due("sent", 8, x.send(1, 2));
    int copied = x.copied();
    int taken = 80 - x.free(0) - x.free(1);
    check.due("the new one", 3, x.receive(1));
    check.due("is alike", true, x.areAlike(2, 3));
    check.due("is a SNAPSHOT", 1, x.ofTree(3, 3));
    check.due("the file with a lowest name is the one there", 0, x.file(3, 0));
    check.due("the same, by another name", 1, x.file(3, 9));
    check.due("a name that was not sent", Treebark.NONE, x.file(3, 1));
    check.due("a new file has a new number", 3, x.file(3, 5));
    check.due("root and node are copied", copied + 2, x.copied());
    check.due("an extent of 4 cells, and a packed one of 3", 5, 80 - x.free(0) - x.free(1) - taken);
    check.due("two new extents and an old one", 3, x.ofFile(3, 0, 1));
    check.due("the old one stays where it was", 4 + 1 + 1 + 1, x.references(1, 0, 0));
    check.due("other extents", 7, x.send(2, 3));
    x.branch(3, false);
    check.due("limits are 1000", 4, x.write(4, 0, 12, 4, 1, 1));
  }

  private static void receiveNames() {
    Treebark x = new Treebark();
    x.branch(0, true);
    x.create(0, 2);
    x.create(0, 4);
    x.write(0, 2, 0, 1, 2, 0);
    x.write(0, 4, 0, 1, 4, 0);
    x.branch(0, true);
    x.link(0, 2, 1);
    x.branch(0, true);
    x.drop(1);
    x.unlink(0, 4);
    x.link(0, 2, 4);
    x.branch(0, true);
    check.due("both, without places", 0, x.send(2, 2));
    check.due("onto one where both names are of one file", 4, x.receive(1));
    check.due("the first one is that", 0, x.file(4, 2));
    check.due("with just its name", 1, x.ofFile(4, 2, 0));
    check.due("the second one is a new one", 2, x.file(4, 4));
    check.due("without places", 16, x.ofFile(4, 4, 2));
    check.due("the first one keeps its places", 2, x.read(4, 2, 0));
    x.drop(4);
    x.send(3, 2);
    x.drop(3);
    check.due("onto one", 3, x.receive(2));
    check.due("the lowest name told is 1, which is of none", 3, x.file(3, 2));
    check.due("names that were not sent are not there", 4 + 16, x.ofTree(3, 0));
    check.due("the other one is there", 1, x.file(3, 4));
    check.due("with its places", 4, x.read(3, 4, 0));
    int copied = x.copied();
    x.drop(3);
    x.receive(2);
    check.due("the root alone is copied", copied + 1, x.copied());
    check.due("the new file has a new number each time", 4, x.file(3, 2));
  }

  private static void receiveWrongly() {
    Treebark x = new Treebark();
    x.create(0, 0);
    for (int at = 0; at < 16; at += 4) {
      x.write(0, 0, at, 4, 10 + at, 1);
    }
    x.branch(0, true);
    check.state(x, "nothing was sent", () -> x.receive(1));
    check.outside(x, "nothing was sent, no tree", () -> x.receive(2));
    x.create(0, 1);
    for (int at = 0; at < 16; at += 4) {
      x.write(0, 1, at, 4, 50 + at, 1);
    }
    x.create(0, 2);
    x.branch(0, true);
    x.send(1, 2);
    check.state(x, "no SNAPSHOT", () -> x.receive(0));
    check.outside(x, "no tree", () -> x.receive(3));
    check.outside(x, "no tree ahead", () -> x.receive(-1));
    x.branch(0, true);
    x.branch(0, true);
    x.branch(0, true);
    check.state(x, "there are 6", () -> x.receive(1));
    x.drop(5);
    x.limits(1, 0, 0);
    check.due("no limit matters", 5, x.receive(1));
    x.drop(4);
    check.due("16 more", 4, x.receive(1));
    x.drop(3);
    check.due("16 are left", 16, x.free(0) + x.free(1));
    x.write(0, 2, 0, 1, 1, 0);
    check.state(x, "15 are not enough", () -> x.receive(1));
    check.due("no number was given", 7, x.create(0, 9));
    x.punch(0, 2, 0, 1);
    check.due("16 are", 3, x.receive(1));
    check.due("none is left", 0, x.free(0) + x.free(1));
  }

  private static void receiveWhenFull() {
    Treebark x = new Treebark();
    for (int name = 0; name < 4; name++) {
      x.create(0, name);
    }
    x.branch(0, true);
    for (int i = 0; i < 12; i++) {
      x.write(0, i / 4, i % 4 * 4, 4, 10 * i, 1);
    }
    x.branch(0, true);
    x.send(1, 2);
    // Two of the three files fit: their nodes were to be copied.
    check.state(x, "it is full", () -> x.receive(1));
    x.drop(2);
    x.unlink(0, 0);
    int copied = x.copied();
    check.due("it is not", 2, x.receive(1));
    check.due("the root and three nodes", copied + 4, x.copied());
  }

  private static void receiveTheLastOne() {
    Treebark x = new Treebark();
    x.create(0, 0);
    x.create(0, 1);
    x.write(0, 1, 0, 1, 1, 0);
    x.branch(0, true);
    x.limits(0, 0, 0);
    x.branch(0, true);
    x.drop(2);
    x.limits(0, 1000, 1000);
    x.write(0, 0, 0, 2, 5, 1);
    x.write(0, 1, 1, 2, 7, 1);
    x.branch(0, true);
    for (int i = 0; i < 8; i++) {
      check.due("sent once more", i % 3 == 0 ? 4 : 0, i % 3 == 0 ? x.send(1, 2) : x.send(2, 2));
    }
    check.due("the other way round", 4, x.send(2, 1));
    check.due("the last one", 4, x.send(1, 2));
    x.branch(0, false);
    x.limits(3, 0, 0);
    x.drop(3);
    check.due("in place of one with limits", 3, x.receive(1));
    check.due("it is alike", true, x.areAlike(2, 3));
    check.due("files are those there", 1, x.file(3, 1));
    x.branch(3, false);
    check.due("limits are 1000", 4, x.write(4, 0, 12, 4, 1, 1));
  }

  private static void receiveByProfile() {
    Treebark x = new Treebark();
    x.create(0, 0);
    x.branch(0, true);
    x.write(0, 0, 0, 2, 1, 1);
    x.write(0, 0, 5, 1, 1, 1);
    x.branch(0, true);
    x.send(1, 2);
    x.profile(Treebark.MIRROR);
    x.receive(1);
    check.due("two extents, MIRRORED", 6, x.ofTree(3, 2));
    check.due("read", 2, x.read(3, 0, 1));
    x.send(2, 1);
    int copied = x.copied();
    x.receive(2);
    check.due("places become holes", 16, x.ofFile(4, 0, 2));
    check.due("which is told, too", copied + 2, x.copied());
  }

  public static void main(String[] args) {
    commit();
    log();
    crash();
    crashWithNames();
    crashInOrder();
    crashTrees();
    crashLeaves();
    send();
    sendKeeps();
    receiveLike();
    receiveNames();
    receiveWrongly();
    receiveWhenFull();
    receiveTheLastOne();
    receiveByProfile();
    check.end();
  }
}
