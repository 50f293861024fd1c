/** Promises 2 to 6: names. */
public final class NamesTest {
  private static final Check check = new Check("NamesTest");

  private static void create() {
    check.promise("2, create");
    Treebark x = new Treebark();
    check.due("create(0, 0)", 0, x.create(0, 0));
    check.due("create(0, 9)", 1, x.create(0, 9));
    check.due("the root is copied once", 1, x.copied());
    check.due("a file of holes", 16, x.ofFile(0, 9, 2));
    check.due("with one name", 1, x.ofFile(0, 9, 0));
    int writable = x.branch(0, false);
    int snapshot = x.branch(0, true);
    check.due("numbers go through all trees", 2, x.create(writable, 4));
    check.due("the shared root is copied", 2, x.copied());
    check.due("the other tree has it not", Treebark.NONE, x.file(0, 4));
    check.outside(x, "create(3, 0)", () -> x.create(3, 0));
    check.outside(x, "create(-1, 0)", () -> x.create(-1, 0));
    check.outside(x, "create(6, 0)", () -> x.create(6, 0));
    check.outside(x, "create(0, -1)", () -> x.create(0, -1));
    check.outside(x, "create(0, 10)", () -> x.create(0, 10));
    check.outside(x, "create of a SNAPSHOT without such a name", () -> x.create(snapshot, 10));
    check.state(x, "create of a name that is of a file", () -> x.create(0, 9));
    check.state(x, "create in a SNAPSHOT", () -> x.create(snapshot, 5));
    check.due("a refused one has no number", 3, x.create(0, 5));
    x.unlink(0, 5);
    check.due("numbers do not come again", 4, x.create(0, 5));
    x.crash();
    check.due("nor behind a crash", 5, x.create(0, 5));
  }

  private static void link() {
    check.promise("3, link");
    Treebark x = new Treebark();
    x.create(0, 0);
    x.create(0, 1);
    x.write(0, 0, 0, 2, 5, 1);
    x.commit();
    int copied = x.copied();
    check.due("link(0, 0, 9)", 2, x.link(0, 0, 9));
    check.due("only the root is copied", copied + 1, x.copied());
    check.due("link(0, 9, 4)", 3, x.link(0, 9, 4));
    check.due("the root is its own now", copied + 1, x.copied());
    check.due("file(0, 4)", 0, x.file(0, 4));
    check.due("it reads so by each name", 6, x.read(0, 9, 1));
    x.write(0, 4, 1, 1, 77, 0);
    check.due("what is written by one name", 77, x.read(0, 0, 1));
    check.due("the node is copied once for all names", copied + 2, x.copied());
    int snapshot = x.branch(0, true);
    check.outside(x, "link(5, 0, 2)", () -> x.link(5, 0, 2));
    check.outside(x, "link(0, 10, 2)", () -> x.link(0, 10, 2));
    check.outside(x, "link(0, 0, 10)", () -> x.link(0, 0, 10));
    check.outside(x, "link(0, 0, -1)", () -> x.link(0, 0, -1));
    check.outside(x, "link of no file to no name", () -> x.link(0, 7, 10));
    check.state(x, "link of no file", () -> x.link(0, 7, 8));
    check.state(x, "link to a name of another file", () -> x.link(0, 0, 1));
    check.state(x, "link to a name of its own", () -> x.link(0, 0, 9));
    check.state(x, "link to the same name", () -> x.link(0, 0, 0));
    check.state(x, "link in a SNAPSHOT", () -> x.link(snapshot, 0, 2));
  }

  private static void unlink() {
    check.promise("4, unlink");
    Treebark x = new Treebark();
    x.create(0, 0);
    x.link(0, 0, 1);
    x.write(0, 0, 0, 4, 5, 1);
    check.due("unlink(0, 0)", 1, x.unlink(0, 0));
    check.due("the file is there by its other name", 6, x.read(0, 1, 1));
    check.due("its blocks are taken", 36, x.free(0));
    check.due("unlink(0, 1)", 0, x.unlink(0, 1));
    check.due("its blocks are free", 40, x.free(0));
    check.due("file(0, 1)", Treebark.NONE, x.file(0, 1));
    for (int name = 0; name < 10; name++) {
      x.create(0, name);
    }
    check.due("of all ten names", 0, x.unlink(0, 4));
    check.due("nine are left", 1023 - 16, x.ofTree(0, 0));
    for (int name = 0; name < 10; name++) {
      if (name != 4) {
        x.unlink(0, name);
      }
    }
    x.create(0, 1);
    x.write(0, 1, 0, 4, 5, 1);
    x.commit();
    int copied = x.copied();
    x.unlink(0, 1);
    check.due("the root is copied, the node is not", copied + 1, x.copied());
    check.due("what was committed is kept", 36, x.free(0));
    x.commit();
    check.due("until it is committed", 40, x.free(0));
    x.create(0, 2);
    int snapshot = x.branch(0, true);
    check.outside(x, "unlink(5, 2)", () -> x.unlink(5, 2));
    check.outside(x, "unlink(0, 10)", () -> x.unlink(0, 10));
    check.outside(x, "unlink(snapshot, -1)", () -> x.unlink(snapshot, -1));
    check.state(x, "unlink of no file", () -> x.unlink(0, 3));
    check.state(x, "unlink in a SNAPSHOT", () -> x.unlink(snapshot, 2));
  }

  private static Object rename(Treebark x, int tree, int name, int other, boolean exchanges) {
    x.rename(tree, name, other, exchanges);
    return "nothing";
  }

  private static void renameInPlace() {
    check.promise("5, rename");
    Treebark x = new Treebark();
    x.create(0, 0);
    x.create(0, 1);
    x.write(0, 1, 0, 4, 5, 1);
    x.commit();
    int copied = x.copied();
    rename(x, 0, 0, 5, false);
    check.due("the name is of no file", Treebark.NONE, x.file(0, 0));
    check.due("the other one is of it", 0, x.file(0, 5));
    check.due("only the root is copied", copied + 1, x.copied());
    rename(x, 0, 5, 1, false);
    check.due("a name that was of another file", 0, x.file(0, 1));
    check.due("the name is gone", 2, x.ofTree(0, 0));
    check.due("the other file is gone, but was committed", 36, x.free(0));
    x.commit();
    check.due("it is gone", 40, x.free(0));
    x.link(0, 1, 2);
    x.commit();
    int before = x.copied();
    rename(x, 0, 1, 2, false);
    rename(x, 0, 1, 2, true);
    rename(x, 0, 1, 1, false);
    rename(x, 0, 1, 1, true);
    check.due("names of the same file stay", 6, x.ofTree(0, 0));
    check.due("and nothing is copied", before, x.copied());
    x.create(0, 3);
    x.link(0, 3, 4);
    rename(x, 0, 2, 3, false);
    check.due("a file with another name stays", 2, x.file(0, 4));
    check.due("with that name alone", 1, x.ofFile(0, 4, 0));
    x.create(0, 7);
    x.write(0, 7, 0, 4, 5, 1);
    rename(x, 0, 4, 7, false);
    check.due("what is gone, and was not committed, is free at once", 40, x.free(0));
  }

  private static void renameExchanging() {
    Treebark x = new Treebark();
    x.create(0, 0);
    x.create(0, 1);
    x.link(0, 1, 2);
    x.write(0, 0, 0, 2, 5, 1);
    x.write(0, 1, 0, 3, 7, 1);
    rename(x, 0, 0, 2, true);
    check.due("exchanged: the one", 0, x.file(0, 2));
    check.due("exchanged: the other", 1, x.file(0, 0));
    check.due("other names stay", 1, x.file(0, 1));
    check.due("places go with files", 5, x.read(0, 2, 0));
    check.due("places go with both", 7, x.read(0, 0, 0));
    rename(x, 0, 2, 0, true);
    rename(x, 0, 0, 1, true);
    check.due("files of one name each keep their blocks", 40 - 2, x.free(0));
    check.due("on both disks", 40 - 3, x.free(1));
    int snapshot = x.branch(0, true);
    check.outside(x, "rename(5, 0, 1, false)", () -> rename(x, 5, 0, 1, false));
    check.outside(x, "rename(0, 10, 1, false)", () -> rename(x, 0, 10, 1, false));
    check.outside(x, "rename(0, 0, 10, true)", () -> rename(x, 0, 0, 10, true));
    check.outside(x, "rename(0, 7, -1, true)", () -> rename(x, 0, 7, -1, true));
    check.state(x, "rename of no file", () -> rename(x, 0, 7, 1, false));
    check.state(x, "rename of no file to itself", () -> rename(x, 0, 7, 7, false));
    check.state(x, "exchange with no file", () -> rename(x, 0, 0, 7, true));
    check.state(x, "rename in a SNAPSHOT", () -> rename(x, snapshot, 0, 7, false));
    check.state(x, "rename in a SNAPSHOT to itself", () -> rename(x, snapshot, 0, 0, false));
  }

  private static void file() {
    check.promise("6, file");
    Treebark x = new Treebark();
    x.create(0, 3);
    x.create(0, 9);
    check.due("file(0, 3)", 0, x.file(0, 3));
    check.due("file(0, 9)", 1, x.file(0, 9));
    check.due("file(0, 0)", -1, x.file(0, 0));
    x.write(0, 9, 0, 1, 1, 0);
    x.commit();
    x.write(0, 9, 0, 1, 2, 0);
    check.due("a copy of a node has its number", 1, x.file(0, 9));
    check.outside(x, "file(1, 0)", () -> x.file(1, 0));
    check.outside(x, "file(-1, 0)", () -> x.file(-1, 0));
    check.outside(x, "file(0, 10)", () -> x.file(0, 10));
    check.outside(x, "file(0, -1)", () -> x.file(0, -1));
    check.outside(x, "file at the ends of int", () -> x.file(Integer.MIN_VALUE, Integer.MAX_VALUE));
  }

  public static void main(String[] args) {
    create();
    link();
    unlink();
    renameInPlace();
    renameExchanging();
    file();
    check.end();
  }
}
