/** The sentences of "READING, MENDING" and of the promises 10 to 13, 27, 28 and 32, each at its edges. */
public final class EdgesOfReadingTest {
  private static final int LOST = Treebark.LOST;
  private static final Check check = new Check("EdgesOfReadingTest");

  private static void refused(String what, Check.Call call) {
    check.throwing(IllegalStateException.class, what, call);
  }

  /** An extent of the values 5 and 6 in the places 14 and 15 of the file 0, MIRRORED, with bad copies as the bits tell. */
  private static Treebark mirrored(int bits) {
    Treebark x = new Treebark();
    x.create(0, 0);
    x.profile(Treebark.MIRROR);
    x.write(0, 0, 14, 2, 5, 1);
    for (int disk = 0; disk < 2; disk++) {
      if ((bits >> disk & 1) == 1) {
        x.damage(disk, 0, 0, 14);
      }
    }
    return x;
  }

  /** The same on one disk alone. */
  private static Treebark single(int disk, boolean isBad) {
    Treebark x = new Treebark();
    x.create(0, 0);
    if (disk == 1) {
      x.create(0, 1);
      x.write(0, 1, 0, 1, 1, 0);
    }
    x.write(0, 0, 14, 2, 5, 1);
    check.due("it lies on the disk " + disk, 38, x.free(disk));
    if (isBad) {
      x.damage(disk, 0, 0, 14);
    }
    return x;
  }

  private static void readOf(Treebark x, String what, int first, int second, int mended) {
    check.due("the first cell, " + what, first, x.read(0, 0, 14));
    check.due("mended by that, " + what, mended, x.mended());
    check.due("the second cell, " + what, second, x.read(0, 0, 15));
    check.due("mended by that, too, " + what, mended, x.mended());
    check.due("a hole beside, " + what, 0, x.read(0, 0, 13));
  }

  private static void read() {
    check.promise("to read a cell is to read a good copy, that on the disk 0 first; a bad one that is met on the way is mended");
    readOf(mirrored(0), "with both good", 5, 6, 0);
    readOf(mirrored(1), "with a bad one on the disk 0", 5, 6, 1);
    readOf(mirrored(2), "with a bad one on the disk 1, which is not met", 5, 6, 0);
    readOf(mirrored(3), "with none", LOST, LOST, 0);
    readOf(single(0, false), "alone on the disk 0", 5, 6, 0);
    readOf(single(1, false), "alone on the disk 1", 5, 6, 0);
    readOf(single(0, true), "alone and bad on the disk 0", LOST, LOST, 0);
    readOf(single(1, true), "alone and bad on the disk 1", LOST, LOST, 0);
  }

  private static void scrubOf(Treebark x, String what, int mends, int then) {
    check.due("scrub " + what, mends, x.scrub());
    check.due("mended " + what, mends, x.mended());
    check.due("once more " + what, 0, x.scrub());
    check.due("it reads " + what, then, x.read(0, 0, 14));
    check.due("which mends nothing " + what, mends, x.mended());
  }

  private static void scrub() {
    check.promise("to scrub is to mend all bad copies of extents in use that have a good one");
    check.due("nothing is in use", 0, new Treebark().scrub());
    scrubOf(mirrored(0), "with both good", 0, 5);
    scrubOf(mirrored(1), "with a bad one on the disk 0", 1, 5);
    scrubOf(mirrored(2), "with a bad one on the disk 1", 1, 5);
    scrubOf(mirrored(3), "with none", 0, LOST);
    scrubOf(single(0, true), "alone and bad on the disk 0", 0, LOST);
    scrubOf(single(1, true), "alone and bad on the disk 1", 0, LOST);
  }

  private static void scrubMany() {
    Treebark x = new Treebark();
    x.profile(Treebark.MIRROR);
    for (int name = 0; name < 10; name++) {
      x.create(0, name);
      for (int at = 0; at < 16; at += 4) {
        x.write(0, name, at, 4, name, 0);
        x.damage((name + at / 4) % 2, 0, name, at);
      }
    }
    check.due("forty extents, which is all that there can be", 0, x.free(0) + x.free(1));
    check.due("one copy of each", 40, x.scrub());
    check.due("all are read", 9, x.read(0, 9, 15));
    x.damage(1, 0, 9, 15);
    x.damage(1, 0, 0, 0);
    check.due("the first one, and the last one", 2, x.scrub());
    check.due("as many in all", 42, x.mended());
  }

  private static void scrubInUse() {
    Treebark x = mirrored(1);
    x.commit();
    x.punch(0, 0, 0, 16);
    check.due("committed", 1, x.scrub());
    x.write(0, 0, 0, 2, 5, 1);
    x.damage(1, 0, 0, 0);
    x.log(0, 0);
    x.punch(0, 0, 0, 16);
    check.due("logged", 1, x.scrub());
    x.write(0, 0, 0, 2, 5, 1);
    x.damage(1, 0, 0, 0);
    x.branch(0, true);
    x.punch(0, 0, 0, 16);
    check.due("of a SNAPSHOT", 1, x.scrub());
    x.write(0, 0, 0, 2, 5, 1);
    x.damage(1, 0, 0, 0);
    x.punch(0, 0, 0, 2);
    check.due("not in use", 0, x.scrub());
  }

  private static void onlyTheseMend() {
    check.promise("only read() and scrub() mend");
    Treebark x = mirrored(1);
    x.create(0, 1);
    x.clone(0, 0, 14, 2, 0, 1, 0);
    check.due("dedupe reads", true, x.dedupe(0, 0, 14, 2, 0, 1, 0));
    x.branch(0, true);
    x.unlink(0, 1);
    x.branch(0, true);
    check.due("areAlike reads", true, x.areAlike(2, 2));
    check.due("send reads", 2, x.send(2, 1));
    check.due("receive", 3, x.receive(2));
    check.due("defragment reads", 1, x.defragment(0, 0));
    x.clone(1, 0, 0, 16, 0, 0, 0);
    x.log(0, 0);
    x.crash();
    x.balance(Treebark.MIRROR);
    x.references(0, 0, 14);
    x.ofFile(0, 0, 1);
    check.due("none of these", 0, x.mended());
  }

  private static void onlyReadMendsIt() {
    Treebark x = mirrored(1);
    x.branch(0, true);
    x.send(1, 1);
    x.areAlike(0, 1);
    x.dedupe(0, 0, 14, 2, 0, 0, 14);
    check.due("the copy is still bad", 1, x.scrub());
  }

  private static void lost() {
    check.promise("without a good one the cell is LOST");
    Treebark x = mirrored(3);
    x.create(0, 1);
    x.write(0, 1, 14, 2, 5, 1);
    check.due("dedupe of what is LOST", false, x.dedupe(0, 0, 14, 1, 0, 1, 14));
    check.due("the other way round", false, x.dedupe(0, 1, 14, 1, 0, 0, 14));
    check.due("with itself", false, x.dedupe(0, 0, 14, 1, 0, 0, 14));
    check.due("clone of what is LOST", 1, x.clone(0, 0, 14, 1, 0, 1, 0));
    check.due("is LOST", LOST, x.read(0, 1, 0));
    refused("defragment, with one place that is LOST", () -> x.defragment(0, 1));
    check.due("areAlike with itself", false, x.areAlike(0, 0));
    x.punch(0, 1, 0, 1);
    check.due("defragment without", 1, x.defragment(0, 1));
    x.branch(0, true);
    check.due("areAlike of the same root", false, x.areAlike(0, 1) || x.areAlike(1, 0) || x.areAlike(1, 1));
    check.due("no place is to be sent", 0, x.send(1, 1));
    x.write(0, 0, 14, 1, 5, 0);
    x.punch(0, 0, 15, 1);
    x.branch(0, true);
    check.due("what was LOST there is not sent", 2, x.send(1, 2));
    refused("what is LOST is", () -> x.send(2, 1));
    x.unlink(0, 0);
    check.due("areAlike without what is LOST", true, x.areAlike(0, 0));
    refused("unless its name is there", () -> x.read(0, 0, 14));
    check.due("all cells of an extent are bad with it", true, x.damage(1, 1, 0, 15));
  }

  public static void main(String[] args) {
    read();
    scrub();
    scrubMany();
    scrubInUse();
    onlyTheseMend();
    onlyReadMendsIt();
    lost();
    check.end();
  }
}
