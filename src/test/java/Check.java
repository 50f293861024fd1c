import java.util.ArrayList;
import java.util.List;

/** Counts the checks of one test class, and tells those that fail. */
final class Check {
  interface Call {
    Object run();
  }

  private final String of;
  private String promise = "";
  private int passed = 0;
  private int failed = 0;

  Check(String of) {
    this.of = of;
  }

  void promise(String promise) {
    this.promise = promise;
  }

  void due(String what, Object want, Object got) {
    if (want.equals(got)) {
      passed++;
    } else {
      failed++;
      System.out.println(of + ", promise " + promise + ": " + what + " answered " + got + ", due is " + want);
    }
  }

  /** The call throws just this exception, and nothing that can be seen is another thing behind it. */
  void refused(Class<? extends Exception> want, Treebark x, String what, Call call) {
    List<Object> before = picture(x);
    throwing(want, what, call);
    due("what is seen after " + what, before, picture(x));
  }

  /** The call throws just this exception; that nothing is changed is left to others. */
  void throwing(Class<? extends Exception> want, String what, Call call) {
    Object got;
    try {
      got = call.run();
    } catch (RuntimeException e) {
      got = e.getClass();
    }
    due(what, want, got);
  }

  void outside(Treebark x, String what, Call call) {
    refused(IndexOutOfBoundsException.class, x, what, call);
  }

  void argument(Treebark x, String what, Call call) {
    refused(IllegalArgumentException.class, x, what, call);
  }

  void state(Treebark x, String what, Call call) {
    refused(IllegalStateException.class, x, what, call);
  }

  /** Reads only what is not LOST in either of two trees, as reading mends. */
  static List<Object> picture(Treebark x) {
    List<Object> seen = new ArrayList<>(List.of(x.copied(), x.mended(), x.free(0), x.free(1), x.freeAnew(0), x.freeAnew(1)));
    for (int tree = 0; tree < 6; tree++) {
      try {
        for (int what = 0; what < 4; what++) {
          seen.add(x.ofTree(tree, what));
        }
      } catch (IndexOutOfBoundsException e) {
        seen.add("none");
        continue;
      }
      for (int other = 0; other < tree; other++) {
        try {
          seen.add(x.areAlike(tree, other));
        } catch (IndexOutOfBoundsException e) {
          seen.add("none");
        }
      }
      for (int name = 0; name < 10; name++) {
        seen.add(x.file(tree, name));
        if (x.file(tree, name) == Treebark.NONE) {
          continue;
        }
        for (int what = 0; what < 3; what++) {
          seen.add(x.ofFile(tree, name, what));
        }
        for (int at = 0; at < 16; at++) {
          seen.add(x.references(tree, name, at));
        }
      }
    }
    return seen;
  }

  /** All places of a file, read. */
  static List<Integer> places(Treebark x, int tree, int name) {
    List<Integer> values = new ArrayList<>();
    for (int at = 0; at < 16; at++) {
      values.add(x.read(tree, name, at));
    }
    return values;
  }

  /** The places that are told; those behind them are holes. */
  static List<Integer> row(int... first) {
    List<Integer> values = new ArrayList<>();
    for (int at = 0; at < 16; at++) {
      values.add(at < first.length ? first[at] : 0);
    }
    return values;
  }

  void end() {
    System.out.println(of + ": " + passed + " passed, " + failed + " failed");
    if (failed > 0) {
      System.exit(1);
    }
  }
}
