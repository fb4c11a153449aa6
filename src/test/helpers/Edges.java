import java.util.ArrayList;
import java.util.HashSet;
import java.util.LinkedHashMap;
import java.util.List;
import java.util.Map;
import java.util.Set;
import java.util.function.Supplier;

/**
 * What the tests of edges share. A test names the document's sentence first, and then what is due by it. No object is
 * used for more than 512 calls, as nothing is promised behind them.
 */
final class Edges {
  static final int UNKNOWN = -1, OUTSIDE = -2, STATE = -3, FULL = -4, NO = -5, NONE = -6;
  static final long GONE = -1000000000000000000L;
  static final int LEAST = Integer.MIN_VALUE, MOST = Integer.MAX_VALUE;

  /** A call with its arguments. */
  interface Call {
    long on(BathBaskets x, int... a);
  }

  /** What is taken for an argument, both ends too, and how all else is refused. */
  record Bound(int least, int most, int refusal) {
    int[] beyond() {
      return new int[] {least - 1, most + 1, LEAST, MOST};
    }
  }

  private static String sentence = "";
  private static final Set<String> SENTENCES = new HashSet<>();
  private static int wrong = 0;

  private Edges() {
  }

  static Bound cabin() {
    return new Bound(0, 9, UNKNOWN);
  }

  static Bound thing() {
    return new Bound(0, 7, UNKNOWN);
  }

  static Bound set() {
    return new Bound(0, 255, OUTSIDE);
  }

  static Bound number(int least, int most) {
    return new Bound(least, most, OUTSIDE);
  }

  /** The document's sentence that all up to the next one is due by; 0 stands for what it says of all calls. */
  static void says(int promise, String words) {
    sentence = (promise == 0 ? "terms" : "promise " + promise) + ", \"" + words + "\": ";
    SENTENCES.add(sentence);
  }

  static void due(String call, long got, long want) {
    if (got != want) {
      tell(call + " answered " + got + ", due is " + want);
    }
  }

  private static void tell(String fault) {
    wrong++;
    if (wrong <= 40) {
      System.out.println(sentence + fault);
    }
  }

  static void end() {
    System.out.println(SENTENCES.size() + " sentences, " + (wrong == 0 ? "all hold" : wrong + " answers are not as due"));
    if (wrong != 0) {
      System.exit(1);
    }
  }

  /** Says all signs; what was on the pad stays. */
  static BathBaskets say(BathBaskets x, String signs) {
    for (char sign : signs.toCharArray()) {
      x.say(sign);
    }
    return x;
  }

  static BathBaskets evening(String signs) {
    return say(new BathBaskets(), signs);
  }

  static String show(String name, int... a) {
    List<String> numbers = new ArrayList<>();
    for (int number : a) {
      numbers.add(String.valueOf(number));
    }
    return name + "(" + String.join(", ", numbers) + ")";
  }

  // ---- that nothing changes

  /** Some 90 calls: both images differ from what is, the pad has 60 signs, there are 8 notes. */
  static BathBaskets fullStand() {
    BathBaskets x = evening("=J");
    x.basket(0, 129, 9);
    x.done();
    x.found(0, 3);
    x.image(0);
    x.basket(9, 66, 1);
    x.attendant(9, 255, 1);
    x.clock(1, 99);
    x.found(60, 3);
    x.image(1);
    for (int b = 1; b < 9; b++) {
      x.basket(b, 1 << (b - 1), b);
    }
    x.attendant(4, 6, 8);
    x.clock(5, 95);
    for (int i = 0; i < 6; i++) {
      x.found(2 * i, 3);
    }
    return say(x, "?B?+1-0=C." + ".".repeat(50));
  }

  static Map<String, Supplier<BathBaskets>> stands() {
    Map<String, Supplier<BathBaskets>> stands = new LinkedHashMap<>();
    stands.put("a new object", BathBaskets::new);
    stands.put("a full one", Edges::fullStand);
    stands.put("a pad with a fault", () -> stand("B=C?+8", 1));
    stands.put("an act that can not be", () -> stand("B=C?B", 0));
    return stands;
  }

  private static BathBaskets stand(String signs, int image) {
    BathBaskets x = evening(signs);
    x.basket(1, 6, 2);
    x.found(1, 4);
    x.found(5, 1);
    x.image(image);
    x.attendant(3, 5, 9);
    x.clock(60, 60);
    return x;
  }

  /** All that can be asked of an object, its images too; it is used up by it (some 220 calls). */
  static String everything(BathBaskets x) {
    StringBuilder text = new StringBuilder(standing(x));
    text.append(x.fault()).append(' ');
    for (int what = 0; what <= 3; what++) {
      text.append(x.judge(what)).append(' ').append(x.his(what)).append(' ').append(x.wrong(what)).append(' ');
    }
    for (int cabin = 0; cabin <= 9; cabin++) {
      text.append(x.behind(cabin, 0)).append('/').append(x.behind(cabin, 1)).append(' ');
    }
    for (int k = 0; k <= 1; k++) {
      text.append(x.restore(k)).append(": ").append(standing(x));
    }
    return text.append(x.wipe()).append(' ').append(x.forget()).toString();
  }

  private static String standing(BathBaskets x) {
    StringBuilder text = new StringBuilder();
    for (int what = 0; what <= 6; what++) {
      text.append(x.told(what)).append(' ');
    }
    for (int i = 0; i < 10; i++) {
      text.append(x.told(10 + i)).append('/').append(x.told(100 + 10 * i)).append('/');
      text.append(x.told(101 + 10 * i)).append(' ');
    }
    for (int i = -1; i <= 8; i++) {
      text.append(x.fits(i)).append(' ');
    }
    return text.toString();
  }

  /** From everywhere the call leaves all as it was, whatever it answers. */
  static void changesNothing(String name, Call call, int... a) {
    stands().forEach((where, stand) -> leavesAll(where, stand, name, call, a));
  }

  private static void leavesAll(String where, Supplier<BathBaskets> stand, String name, Call call, int... a) {
    BathBaskets x = stand.get();
    call.on(x, a);
    same(where + " behind " + show(name, a), x, stand.get());
  }

  static void same(String what, BathBaskets x, BathBaskets other) {
    String got = everything(x), want = everything(other);
    if (!got.equals(want)) {
      tell(what + " is " + got + ", due is " + want);
    }
  }

  /** From that stand the call answers the refusal, and leaves all as it was. */
  static void refused(Supplier<BathBaskets> stand, String name, Call call, long refusal, int... a) {
    due(show(name, a), call.on(stand.get(), a), refusal);
    leavesAll("it", stand, name, call, a);
  }

  static void refusedEverywhere(String name, Call call, long refusal, int... a) {
    stands().values().forEach(stand -> refused(stand, name, call, refusal, a));
  }

  // ---- numbers beyond their bounds

  /**
   * From everywhere, with one number beyond its bound or two, the others being the least or the most that are taken:
   * UNKNOWN, if one of those is so refused, else OUTSIDE; and nothing is changed by it.
   */
  static void refusesBeyond(String name, Call call, Bound... bounds) {
    refusesBeyond(name, 0, call, bounds);
  }

  static void refusesBeyond(String name, long base, Call call, Bound... bounds) {
    for (int[] a : beyond(bounds)) {
      int refusal = OUTSIDE;
      for (int i = 0; i < a.length; i++) {
        boolean isTaken = a[i] >= bounds[i].least && a[i] <= bounds[i].most;
        refusal = isTaken ? refusal : Math.max(refusal, bounds[i].refusal);
      }
      long want = base + refusal;
      stands().forEach((where, stand) -> {
        due(where + ": " + show(name, a), call.on(stand.get(), a), want);
        leavesAll(where, stand, name, call, a);
      });
    }
  }

  private static List<int[]> beyond(Bound[] bounds) {
    List<int[]> all = new ArrayList<>();
    for (int end = 0; end <= 1; end++) {
      int[] taken = new int[bounds.length];
      for (int i = 0; i < bounds.length; i++) {
        taken[i] = end == 0 ? bounds[i].least : bounds[i].most;
      }
      for (int i = 0; i < bounds.length; i++) {
        for (int first : bounds[i].beyond()) {
          int[] one = taken.clone();
          one[i] = first;
          all.add(one);
          for (int j = i + 1; j < bounds.length; j++) {
            for (int second : bounds[j].beyond()) {
              int[] two = one.clone();
              two[j] = second;
              all.add(two);
            }
          }
        }
      }
    }
    return all;
  }
}
