/** The sentences of "COMMITS, CRASHES" and of the promises 20 to 22, each at its edges. */
public final class EdgesOfCommitsTest {
  private static final Check check = new Check("EdgesOfCommitsTest");

  private static void outside(String what, Check.Call call) {
    check.throwing(IndexOutOfBoundsException.class, what, call);
  }

  private static void refused(String what, Check.Call call) {
    check.throwing(IllegalStateException.class, what, call);
  }

  /** The files 0 and 1 of the names 0 and 1, committed; a place of each. */
  private static Treebark twoFiles() {
    Treebark x = new Treebark();
    for (int name = 0; name < 2; name++) {
      x.create(0, name);
      x.write(0, name, 0, 1, 10 + name, 0);
    }
    x.commit();
    return x;
  }

  private static void emptyLog() {
    check.promise("a crash brings all trees back as they were committed last: with an empty log");
    Treebark x = new Treebark();
    check.due("a new object", 0, x.crash());
    check.due("nothing is copied", 0, x.copied());
    check.due("one tree", 1, x.commit());
    x.create(0, 0);
    check.due("without a commit", 0, x.crash());
    check.due("all was committed at first, without files", 0, x.ofTree(0, 0));
    x.create(0, 0);
    x.commit();
    check.due("behind a commit", 0, x.crash());
    check.due("with its file", 1, x.ofTree(0, 0));
    check.due("and once more", 0, x.crash());
    check.due("with its file", 1, x.file(0, 0));
  }

  private static void treesComeBack() {
    check.promise("to commit is to keep all trees as they are, with their limits");
    Treebark x = new Treebark();
    x.create(0, 0);
    for (int tree = 1; tree < 6; tree++) {
      x.branch(0, tree % 2 == 1);
    }
    x.limits(2, 3, 1000);
    x.limits(4, 1000, 2);
    check.due("six trees", 6, x.commit());
    x.write(4, 0, 0, 2, 1, 1);
    x.limits(2, 0, 0);
    x.limits(4, 0, 0);
    for (int tree = 1; tree < 6; tree++) {
      x.drop(tree);
    }
    x.branch(0, false);
    check.due("two trees are not committed", 0, x.crash());
    for (int tree = 0; tree < 6; tree++) {
      check.due("the tree " + tree + " is there", 1, x.ofTree(tree, 0));
      check.due("and a SNAPSHOT, or none", tree % 2, x.ofTree(tree, 3));
      check.due("without places", 16, x.ofFile(tree, 0, 2));
    }
    refused("with its limit of what it refers to", () -> x.write(2, 0, 0, 4, 1, 1));
    check.due("which is just reached", 3, x.write(2, 0, 0, 3, 1, 1));
    refused("with its limit of its own", () -> x.write(4, 0, 0, 3, 1, 1));
    check.due("which is just reached", 2, x.write(4, 0, 0, 2, 1, 1));
    check.due("with none", 4, x.write(0, 0, 0, 4, 1, 1));
  }

  private static void newTreesAreGone() {
    Treebark x = new Treebark();
    for (int tree = 1; tree < 6; tree++) {
      x.branch(0, true);
    }
    x.crash();
    check.due("trees that were not committed are gone", 1, x.commit());
    outside("all of them", () -> x.ofTree(5, 0));
    outside("and the first one", () -> x.ofTree(1, 0));
  }

  private static void logEmpties() {
    check.promise("the log is empty then");
    Treebark x = twoFiles();
    check.due("one", 1, x.log(0, 0));
    x.commit();
    check.due("empty behind a commit", 1, x.log(0, 1));
    x.crash();
    check.due("empty behind a crash", 1, x.log(0, 0));
    refused("of no file", () -> x.log(0, 5));
    check.due("just that one came back", 1, x.crash());
    check.due("and not once more", 0, x.crash());
  }

  private static void logIsFull() {
    check.promise("21, log: how many files the log has then");
    Treebark x = new Treebark();
    for (int name = 0; name < 10; name++) {
      x.create(0, name);
      x.write(0, name, 15, 1, name, 0);
    }
    x.branch(0, true);
    x.branch(0, false);
    for (int name = 0; name < 10; name++) {
      check.due("each file of a tree", 2 * name + 1, x.log(0, name));
      check.due("and the same one of another tree", 2 * name + 2, x.log(2, name));
    }
    check.due("of a SNAPSHOT, too", 21, x.log(1, 0));
    check.due("one that is there", 21, x.log(0, 0));
    x.branch(0, true);
    x.drop(2);
    x.branch(0, false);
    check.due("in a tree of the same number", 21, x.log(2, 9));
    check.due("just those of the tree 0", 10, x.crash());
    for (int name = 0; name < 10; name++) {
      check.due("the name " + name, name, x.read(0, name, 15));
    }
  }

  private static void inPlaceOfAnEarlierOne() {
    check.promise("in place of an earlier one of that file in that tree (it is the last one of the log then)");
    Treebark x = twoFiles();
    x.log(0, 0);
    x.write(0, 0, 0, 1, 20, 0);
    x.log(0, 1);
    check.due("still two", 2, x.log(0, 0));
    check.due("both come back", 2, x.crash());
    check.due("as it was logged last", 20, x.read(0, 0, 0));

    Treebark w = twoFiles();
    w.write(0, 0, 4, 4, 1, 0);
    w.log(0, 0);
    w.punch(0, 0, 4, 4);
    check.due("places of the earlier one are in use", 77, w.free(0) + w.free(1));
    check.due("in place of it", 1, w.log(0, 0));
    check.due("they are not", 78, w.free(0) + w.free(1));
    check.due("nor found", 78, w.freeAnew(0) + w.freeAnew(1));
    w.write(0, 0, 4, 4, 1, 0);
    w.log(0, 0);
    w.log(0, 0);
    check.due("logged once more they are", 77, w.free(0) + w.free(1));
    w.unlink(0, 0);
    check.due("without the name, too", 77, w.free(0) + w.free(1));
    w.commit();
    check.due("until the log is empty", 79, w.free(0) + w.free(1));

    Treebark y = twoFiles();
    y.log(0, 0);
    y.rename(0, 0, 1, false);
    y.create(0, 0);
    y.log(0, 0);
    y.log(0, 1);
    check.due("both come back", 2, y.crash());
    check.due("the one that was logged first has its later name", 0, y.file(0, 1));
    check.due("the other one has the name", 2, y.file(0, 0));

    Treebark z = twoFiles();
    z.log(0, 0);
    z.log(0, 1);
    z.unlink(0, 1);
    z.link(0, 0, 1);
    z.log(0, 0);
    check.due("both come back", 2, z.crash());
    check.due("it is the last one: the other's name is its own", 3, z.ofTree(0, 0));
    check.due("so the other one is gone", 0, z.file(0, 1));
  }

  private static void inTheOrder() {
    check.promise("then, in the order in which they were logged, each file of the log has just the names, and places, as it was logged");
    for (int first = 0; first < 2; first++) {
      Treebark x = twoFiles();
      if (first == 0) {
        x.log(0, 1);
        x.rename(0, 0, 1, false);
        x.log(0, 1);
      } else {
        x.rename(0, 0, 1, true);
        x.log(0, 1);
        x.rename(0, 0, 1, true);
        x.log(0, 1);
      }
      check.due("both come back", 2, x.crash());
      check.due("the last one has the name", first, x.file(0, 1));
      check.due("the other one is gone, or has its old name no more", Treebark.NONE, x.file(0, 0));
    }
  }

  private static void justTheNames() {
    check.promise("just the names: those that it had when it was committed, too, are not its own");
    Treebark x = twoFiles();
    x.link(0, 0, 8);
    x.link(0, 0, 9);
    x.commit();
    x.unlink(0, 0);
    x.unlink(0, 9);
    x.link(0, 8, 5);
    x.log(0, 5);
    x.link(0, 8, 6);
    x.punch(0, 8, 0, 1);
    check.due("one", 1, x.crash());
    check.due("5 and 8, and 1 of the other one", 2 + 32 + 256, x.ofTree(0, 0));
    check.due("two names", 2, x.ofFile(0, 5, 0));
    check.due("its places", 10, x.read(0, 8, 0));
    check.due("the other one is as it was committed", 11, x.read(0, 1, 0));
  }

  private static void namesOfOthers() {
    check.promise("names that other files have there become its own");
    Treebark x = twoFiles();
    x.link(0, 1, 7);
    x.commit();
    x.unlink(0, 1);
    x.link(0, 0, 1);
    x.log(0, 0);
    check.due("one", 1, x.crash());
    check.due("the name", 0, x.file(0, 1));
    check.due("the other one has its other name", 1, x.file(0, 7));
    check.due("and just that", 1, x.ofFile(0, 7, 0));
    x.unlink(0, 7);
    x.link(0, 0, 7);
    x.log(0, 0);
    x.crash();
    check.due("without names it is gone", 3, x.ofFile(0, 7, 0));
    check.due("with its extent", 39, x.free(0));
    check.due("which the disk 1 had", 40, x.free(1));
  }

  private static void madeWithItsNumber() {
    check.promise("it is made with its number, if it is not there");
    Treebark x = twoFiles();
    x.create(0, 9);
    x.write(0, 9, 12, 4, 1, 1);
    x.log(0, 9);
    x.unlink(0, 9);
    int copied = x.copied();
    check.due("one", 1, x.crash());
    check.due("with its number", 2, x.file(0, 9));
    check.due("with its places", 4, x.read(0, 9, 15));
    check.due("and with its holes", 12, x.ofFile(0, 9, 2));
    check.due("only the root is copied", copied + 1, x.copied());
    x.write(0, 9, 0, 1, 1, 0);
    check.due("all is committed then", copied + 3, x.copied());

    Treebark y = twoFiles();
    y.branch(0, false);
    y.commit();
    y.create(1, 5);
    y.log(1, 5);
    y.unlink(1, 5);
    y.drop(1);
    check.due("in a tree that is there again", 1, y.crash());
    check.due("with its number", 2, y.file(1, 5));
    check.due("not in another one", Treebark.NONE, y.file(0, 5));
    check.due("a number that does not come again", 3, y.create(0, 5));
  }

  private static void madeBehindOneThatTookItsNames() {
    Treebark x = twoFiles();
    x.log(0, 1);
    x.rename(0, 0, 1, false);
    x.log(0, 1);
    x.create(0, 0);
    x.link(0, 0, 2);
    x.log(0, 0);
    // In the log: the file 1 as 1, the file 0 as 1, the file 2 as 0 and 2.
    int copied = x.copied();
    check.due("three", 3, x.crash());
    check.due("the last ones are there", 1 + 2 + 4, x.ofTree(0, 0));
    check.due("the file 0", 0, x.file(0, 1));
    check.due("the file 2", 2, x.file(0, 0));
    check.due("the root, and the nodes 0 and 1", copied + 3, x.copied());
  }

  private static void leftOut() {
    check.promise("if its tree, known by its number alone, is not there then, or a SNAPSHOT, it is left out");
    Treebark x = twoFiles();
    x.branch(0, true);
    x.branch(0, false);
    x.branch(0, true);
    x.commit();
    x.log(1, 0);
    x.drop(2);
    x.branch(1, true);
    x.log(2, 0);
    x.drop(3);
    x.branch(0, false);
    x.write(3, 0, 0, 1, 99, 0);
    x.log(3, 0);
    x.branch(0, false);
    x.write(4, 0, 0, 1, 99, 0);
    x.log(4, 0);
    x.write(0, 1, 0, 1, 77, 0);
    check.due("five", 5, x.log(0, 1));
    int copied = x.copied();
    check.due("those of the trees 0 and 2, though that was a SNAPSHOT when it was logged", 2, x.crash());
    check.due("root and node of each of both", copied + 4, x.copied());
    check.due("the file of the tree 0", 77, x.read(0, 1, 0));
    check.due("the SNAPSHOT 3 is as it was committed", 10, x.read(3, 0, 0));
    check.due("the trees as they were committed", 4, x.commit());
    outside("not the tree 4", () -> x.ofTree(4, 0));
    check.due("what was left out is free", 80, x.free(0) + x.free(1) + 3);
  }

  private static void leftOutAlone() {
    Treebark x = new Treebark();
    x.create(0, 0);
    x.commit();
    x.branch(0, false);
    x.log(1, 0);
    int copied = x.copied();
    check.due("a tree that was not committed", 0, x.crash());
    check.due("nothing is copied", copied, x.copied());
    check.due("nor there", 1, x.commit());
  }

  private static void thenAllIsCommitted() {
    check.promise("then all is committed");
    Treebark x = twoFiles();
    x.write(0, 0, 0, 1, 50, 0);
    x.log(0, 0);
    x.crash();
    x.write(0, 0, 0, 1, 60, 0);
    check.due("the log is empty", 0, x.crash());
    check.due("what came back is committed", 50, x.read(0, 0, 0));
    x.unlink(0, 0);
    x.unlink(0, 1);
    check.due("and in use", 78, x.free(0) + x.free(1));
    x.commit();
    check.due("until it is committed", 80, x.free(0) + x.free(1));
  }

  private static void whatStays() {
    check.promise("numbers do not come again; the profile, and what was sent, stay; counts are not taken back");
    Treebark x = twoFiles();
    x.create(0, 5);
    x.crash();
    check.due("the number of a file that is gone", 3, x.create(0, 5));
    x.profile(Treebark.MIRROR);
    x.crash();
    check.due("the profile", Treebark.MIRROR, x.profile(Treebark.SINGLE));
    x.branch(0, true);
    check.due("sent", 0, x.send(1, 1));
    x.crash();
    outside("the SNAPSHOT is gone", () -> x.send(1, 1));
    x.branch(0, true);
    check.due("what was sent is not", 2, x.receive(1));
    int copied = x.copied();
    x.crash();
    check.due("copied", copied, x.copied());
  }

  private static void copiesOfExtents() {
    check.promise("copies of extents that are bad, or mended, stay so");
    Treebark x = twoFiles();
    x.balance(Treebark.MIRROR);
    x.damage(0, 0, 0, 0);
    x.damage(0, 0, 1, 0);
    x.damage(1, 0, 1, 0);
    x.crash();
    check.due("LOST", Treebark.LOST, x.read(0, 1, 0));
    check.due("read from the disk 1", 10, x.read(0, 0, 0));
    check.due("which mends", 1, x.mended());
    x.crash();
    check.due("mended stays so", 0, x.scrub());
    check.due("the count stays", 1, x.mended());
    check.due("MIRRORED stays so", 38, x.free(1));
    x.log(0, 1);
    check.due("what is LOST can be logged", 1, x.crash());
    check.due("and is LOST", Treebark.LOST, x.read(0, 1, 0));
  }

  private static void copiedAsTold() {
    check.promise("what comes back from the log is copied as told, also if it becomes what it was");
    Treebark x = twoFiles();
    int copied = x.copied();
    x.log(0, 0);
    check.due("log copies nothing", copied, x.copied());
    x.crash();
    check.due("root and node", copied + 2, x.copied());
    x.log(0, 0);
    x.log(0, 1);
    x.crash();
    check.due("one root and two nodes", copied + 5, x.copied());
    int other = x.branch(0, false);
    x.commit();
    x.log(0, 0);
    x.log(other, 0);
    x.crash();
    check.due("two roots and two nodes", copied + 9, x.copied());
    check.due("both are alike", true, x.areAlike(0, other));
    x.create(0, 9);
    x.log(0, 9);
    int before = x.copied();
    x.crash();
    check.due("of one that is made: the root", before + 1, x.copied());
  }

  private static void noLimitMatters() {
    check.promise("limits are of write(), clone(), defragment() and dedupe(): not of crash()");
    Treebark x = twoFiles();
    x.limits(0, 0, 0);
    x.commit();
    x.limits(0, 1000, 1000);
    x.write(0, 0, 4, 4, 1, 1);
    x.log(0, 0);
    check.due("above both", 1, x.crash());
    check.due("it refers to", 6, x.ofTree(0, 1));
    refused("and its limits are as committed", () -> x.write(0, 0, 8, 1, 1, 1));
  }

  public static void main(String[] args) {
    emptyLog();
    treesComeBack();
    newTreesAreGone();
    logEmpties();
    logIsFull();
    inPlaceOfAnEarlierOne();
    inTheOrder();
    justTheNames();
    namesOfOthers();
    madeWithItsNumber();
    madeBehindOneThatTookItsNames();
    leftOut();
    leftOutAlone();
    thenAllIsCommitted();
    whatStays();
    copiesOfExtents();
    copiedAsTold();
    noLimitMatters();
    check.end();
  }
}
