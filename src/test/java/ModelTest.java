import java.math.BigInteger;
import java.util.ArrayDeque;
import java.util.ArrayList;
import java.util.Arrays;
import java.util.HashMap;
import java.util.HashSet;
import java.util.List;
import java.util.Map;
import java.util.Random;
import java.util.Set;
import java.util.TreeSet;
import java.util.regex.Matcher;
import java.util.regex.Pattern;

/** Drawn runs of calls, and whole tables, against a slow model that finds its answers in other ways than the class. */
public final class ModelTest {
  private static final int UNKNOWN = -1, OUTSIDE = -2, STATE = -3, FULL = -4, NO = -5, NONE = -6;
  private static final long GONE = -1000000000000000000L;
  private static int wrong = 0;
  private static int answers = 0;

  /** All that stands, apart from the pad. */
  private static final class Stand {
    int[] at = {0, 1, 2, 3, 4, 5, 6, 7, 8, 9};
    List<TreeSet<Integer>> in = new ArrayList<>();
    int[] wants = {3, 3, 3, 3, 3, 3, 3, 3, 3, 3};
    int cabin = 0, clock = 0, bell = 60;
    TreeSet<Integer> has = new TreeSet<>(), seen = new TreeSet<>();
    List<int[]> notes = new ArrayList<>();

    Stand() {
      for (int i = 0; i < 10; i++) {
        in.add(new TreeSet<>());
      }
    }

    Stand copy() {
      Stand c = new Stand();
      c.at = at.clone();
      for (int i = 0; i < 10; i++) {
        c.in.set(i, new TreeSet<>(in.get(i)));
      }
      c.wants = wants.clone();
      c.cabin = cabin;
      c.clock = clock;
      c.bell = bell;
      c.has = new TreeSet<>(has);
      c.seen = new TreeSet<>(seen);
      c.notes = new ArrayList<>(notes);
      return c;
    }

    int misplaced() {
      int n = 0;
      for (int i = 0; i < 10; i++) {
        n += at[i] == i ? 0 : 1;
      }
      return n;
    }

    /** Why the act can not be, or 0, and it is done then. */
    int act(String act) {
      TreeSet<Integer> here = in.get(at[cabin]);
      char sign = act.charAt(0);
      if (sign >= 'A' && sign <= 'J') {
        int to = sign - 'A';
        if (to == cabin) {
          return 1;
        }
        if (!pass(Math.abs(to - cabin))) {
          return 4;
        }
        cabin = to;
      } else if (sign == '?') {
        if (!pass(wants[at[cabin]])) {
          return 4;
        }
        seen.addAll(here);
      } else if (sign == '.') {
        return pass(1) ? 0 : 4;
      } else if (sign == '=') {
        int other = act.charAt(1) - 'A';
        if (other == cabin) {
          return 1;
        }
        int basket = at[other];
        at[other] = at[cabin];
        at[cabin] = basket;
      } else {
        Integer thing = act.charAt(1) - '0';
        TreeSet<Integer> from = sign == '+' ? has : here, to = sign == '+' ? here : has;
        if (!from.contains(thing)) {
          return 2;
        }
        if (to.contains(thing)) {
          return 3;
        }
        from.remove(thing);
        to.add(thing);
        if (sign == '-') {
          seen.add(thing);
        }
      }
      return 0;
    }

    private boolean pass(int minutes) {
      if (clock + minutes > bell) {
        return false;
      }
      clock += minutes;
      return true;
    }
  }

  private static final class Model {
    private static final Pattern ACT = Pattern.compile("[A-J?.]|[+-][0-7]|=[A-J]");
    private static final Pattern ACTS = Pattern.compile("(?:[A-J?.]|[+-][0-7]|=[A-J])*");
    Stand now = new Stand();
    StringBuilder pad = new StringBuilder();
    Stand[] images = new Stand[2];

    // what the last evening told
    Stand later;
    int acts, stopped, why, gone, lostBy, lostCabin;

    static int bits(Iterable<Integer> set) {
      int b = 0;
      for (int i : set) {
        b |= 1 << i;
      }
      return b;
    }

    static TreeSet<Integer> set(int bits) {
      TreeSet<Integer> s = new TreeSet<>();
      for (int i = 0; i < 32; i++) {
        if ((bits >>> i & 1) == 1) {
          s.add(i);
        }
      }
      return s;
    }

    static boolean out(int v, int least, int most) {
      return v < least || v > most;
    }

    int basket(int b, int things, int v) {
      if (out(b, 0, 9)) {
        return UNKNOWN;
      }
      if (out(things, 0, 255) || out(v, 1, 9)) {
        return OUTSIDE;
      }
      int was = 10 * bits(now.in.get(b)) + now.wants[b];
      now.in.set(b, set(things));
      now.wants[b] = v;
      return was;
    }

    int right() {
      int was = now.misplaced();
      now.at = new Stand().at;
      return was;
    }

    int clock(int c, int b) {
      if (out(c, 0, 99) || out(b, 0, 99)) {
        return OUTSIDE;
      }
      int was = 100 * now.clock + now.bell;
      now.clock = c;
      now.bell = b;
      return was;
    }

    int attendant(int c, int has, int seen) {
      if (out(c, 0, 9)) {
        return UNKNOWN;
      }
      if (out(has, 0, 255) || out(seen, 0, 255)) {
        return OUTSIDE;
      }
      int was = now.cabin;
      now.cabin = c;
      now.has = set(has);
      now.seen = set(seen);
      return was;
    }

    int say(int sign) {
      if (out(sign, 33, 126)) {
        return OUTSIDE;
      }
      if (pad.length() == 60) {
        return FULL;
      }
      return pad.append((char) sign).length();
    }

    int wipe() {
      int was = pad.length();
      pad.setLength(0);
      return was;
    }

    /** The longest beginning that some text of acts begins with tells it. */
    int fault() {
      for (int n = 1; n <= pad.length(); n++) {
        Matcher m = ACTS.matcher(pad.substring(0, n));
        if (!m.matches() && !m.hitEnd()) {
          return n - 1;
        }
      }
      return ACTS.matcher(pad).matches() ? NONE : pad.length();
    }

    int play() {
      if (fault() != NONE) {
        return NO;
      }
      later = now.copy();
      acts = gone = 0;
      stopped = why = lostBy = lostCabin = NONE;
      Matcher m = ACT.matcher(pad);
      while (m.find()) {
        int[] before = later.at.clone();
        int reason = later.act(m.group());
        if (reason != 0) {
          stopped = acts;
          why = reason;
          return STATE;
        }
        if (m.group().equals("?")) {
          gone |= 1 << later.at[later.cabin];
        }
        for (int c = 0; c < 10; c++) {
          if (lostBy == NONE && before[c] == c && later.at[c] != c) {
            lostBy = acts;
            lostCabin = c;
          }
        }
        acts++;
      }
      return 0;
    }

    int judge(int what) {
      if (out(what, 0, 2)) {
        return OUTSIDE;
      }
      int p = play();
      if (p == NO) {
        return NO;
      }
      if (what == 2) {
        return p == STATE ? STATE : gone;
      }
      return what == 0 ? stopped : why;
    }

    int behind(int c, int what) {
      if (out(c, 0, 9)) {
        return UNKNOWN;
      }
      if (out(what, 0, 1)) {
        return OUTSIDE;
      }
      int p = play();
      return p != 0 ? p : what == 0 ? later.at[c] : bits(later.in.get(later.at[c]));
    }

    int his(int what) {
      if (out(what, 0, 3)) {
        return OUTSIDE;
      }
      int p = play();
      return p != 0 ? p : new int[] {later.cabin, bits(later.has), bits(later.seen), later.clock}[what];
    }

    int wrong(int what) {
      if (out(what, 0, 2)) {
        return OUTSIDE;
      }
      int p = play();
      return p != 0 ? p : new int[] {later.misplaced(), lostBy, lostCabin}[what];
    }

    int done() {
      int p = play();
      if (p != 0) {
        return p;
      }
      now = later.copy();
      wipe();
      return acts;
    }

    /** Minute by minute: in which cabin, having gone through which, he can be when. */
    int round(int goal, int what) {
      if (out(goal, 0, 9)) {
        return UNKNOWN;
      }
      if (out(what, 0, 1)) {
        return OUTSIDE;
      }
      boolean[][] can = new boolean[120][10 * 1024];
      int most = NONE, least = NONE;
      if (now.clock <= now.bell) {
        can[now.clock][now.cabin * 1024] = true;
      }
      for (int t = now.clock; t <= now.bell; t++) {
        for (int s = 0; s < 10 * 1024; s++) {
          if (!can[t][s]) {
            continue;
          }
          int c = s / 1024, set = s % 1024;
          if (c == goal && (Integer.bitCount(set) > most || Integer.bitCount(set) == most && set < least)) {
            most = Integer.bitCount(set);
            least = set;
          }
          if (c > 0) {
            can[t + 1][s - 1024] = true;
          }
          if (c < 9) {
            can[t + 1][s + 1024] = true;
          }
          can[t + now.wants[now.at[c]]][c * 1024 + (set | 1 << c)] = true;
        }
      }
      return what == 0 ? most : least;
    }

    int show(int set, int what) {
      if (out(set, 0, 255) || out(what, 0, 1)) {
        return OUTSIDE;
      }
      for (int size = 0; size <= 10; size++) {
        for (int baskets = 0; baskets < 1024; baskets++) {
          if (Integer.bitCount(baskets) == size) {
            TreeSet<Integer> known = new TreeSet<>(now.seen);
            for (int b : set(baskets)) {
              known.addAll(now.in.get(b));
            }
            if (known.containsAll(set(set))) {
              return what == 0 ? size : baskets;
            }
          }
        }
      }
      return NONE;
    }

    private int mostFrom(int thing, int used, int set, Map<Integer, Integer> memo) {
      if (thing == 8) {
        return 0;
      }
      Integer known = memo.get(thing * 1024 + used);
      if (known != null) {
        return known;
      }
      int most = mostFrom(thing + 1, used, set, memo);
      for (int b = 0; b < 10; b++) {
        if (canOwn(thing, b, used, set)) {
          most = Math.max(most, 1 + mostFrom(thing + 1, used | 1 << b, set, memo));
        }
      }
      memo.put(thing * 1024 + used, most);
      return most;
    }

    private boolean canOwn(int thing, int b, int used, int set) {
      return (set >> thing & 1) == 1 && (used >> b & 1) == 0 && now.in.get(b).contains(thing);
    }

    int owners(int set, int asked) {
      if (out(asked, -1, 7)) {
        return UNKNOWN;
      }
      if (out(set, 0, 255)) {
        return OUTSIDE;
      }
      Map<Integer, Integer> memo = new HashMap<>();
      if (asked == -1) {
        return mostFrom(0, 0, set, memo);
      }
      int used = 0;
      for (int thing = 0; thing < 8; thing++) {
        int most = mostFrom(thing, used, set, memo), with = NONE;
        for (int b = 9; b >= 0; b--) {
          if (canOwn(thing, b, used, set) && 1 + mostFrom(thing + 1, used | 1 << b, set, memo) == most) {
            with = b;
          }
        }
        if (thing == asked) {
          return with;
        }
        used |= with == NONE ? 0 : 1 << with;
      }
      throw new IllegalStateException();
    }

    int towels(int row, int what) {
      Integer changes = TOWELS.get(row);
      if (changes == null || out(what, 0, 1)) {
        return OUTSIDE;
      }
      if (what == 0) {
        return changes;
      }
      String start = "012345", hung = start, digits = String.format("%06d", row);
      int times = 0;
      do {
        StringBuilder next = new StringBuilder();
        for (int i = 0; i < 6; i++) {
          next.append(hung.charAt(digits.charAt(i) - '0'));
        }
        hung = next.toString();
        times++;
      } while (!hung.equals(start));
      return times;
    }

    int found(int day, int thing) {
      if (out(thing, 0, 7)) {
        return UNKNOWN;
      }
      if (out(day, 0, 60)) {
        return OUTSIDE;
      }
      if (now.notes.size() == 8) {
        return FULL;
      }
      now.notes.add(new int[] {day, thing});
      return now.notes.size();
    }

    int forget() {
      int was = now.notes.size();
      now.notes.clear();
      return was;
    }

    List<Integer> laws() {
      List<Integer> laws = new ArrayList<>();
      for (int law = 0; law <= 77; law++) {
        boolean fits = law % 10 < 8;
        for (int[] note : now.notes) {
          fits &= (law / 10 * note[0] + law % 10 - note[1]) % 8 == 0;
        }
        if (fits) {
          laws.add(law);
        }
      }
      return laws;
    }

    int fits(int i) {
      List<Integer> laws = laws();
      return i == -1 ? laws.size() : out(i, 0, laws.size() - 1) ? NONE : laws.get(i);
    }

    int ask(int what) {
      if (out(what, 0, 1)) {
        return OUTSIDE;
      }
      List<Integer> laws = laws();
      int best = NONE, fewest = laws.isEmpty() ? NONE : 65;
      for (int day = 60; day >= 0 && !laws.isEmpty(); day--) {
        int[] left = new int[8];
        for (int law : laws) {
          left[(law / 10 * day + law % 10) % 8]++;
        }
        int most = Arrays.stream(left).max().getAsInt();
        if (most <= fewest) {
          best = day;
          fewest = most;
        }
      }
      return what == 0 ? best : fewest;
    }

    int piles(int a, int b, int what) {
      if (out(a, 0, 20) || out(b, 0, 20) || out(what, 0, 1)) {
        return OUTSIDE;
      }
      int take = WINNING[a][b];
      return what == 1 ? take : take == NONE ? 0 : 1;
    }

    long lengths(int k, int n, int t, int what, int part) {
      if (out(k, 0, 12) || out(n, 0, 12) || out(t, 0, 10) || out(what, 0, 1) || out(part, 0, 1)) {
        return GONE + OUTSIDE;
      }
      BigInteger upper = BigInteger.ZERO, lower = BigInteger.TEN.pow(n);
      for (int minutes = 0; minutes < 1 << n; minutes++) {
        int swum = Integer.bitCount(minutes);
        long weight = what == 1 ? Math.min(swum, k) : swum >= k ? 1 : 0;
        if (weight > 0) {
          upper = upper.add(BigInteger.valueOf(weight).multiply(BigInteger.valueOf(t).pow(swum))
              .multiply(BigInteger.valueOf(10 - t).pow(n - swum)));
        }
      }
      return (part == 0 ? upper : lower).divide(upper.gcd(lower)).longValueExact();
    }

    int year(int seed, int m, int what) {
      if (out(seed, 0, 9999) || out(m, 1, 99) || out(what, 0, 2)) {
        return OUTSIDE;
      }
      Stand s = now.copy();
      long x = seed;
      for (int i = 0; i < m; i++) {
        x = (75 * x + 74) % 65537;
        long y = x / 8;
        String letter = String.valueOf((char) ('A' + y % 10));
        String[] drawn = {letter, letter, "?", "?", "+" + y % 8, "-" + y % 8, "=" + letter, "."};
        s.act(drawn[(int) (x % 8)]);
      }
      return what == 0 ? s.clock : what == 1 ? s.seen.size() : s.misplaced();
    }

    int image(int k) {
      if (out(k, 0, 1)) {
        return OUTSIDE;
      }
      images[k] = now.copy();
      return 1;
    }

    int restore(int k) {
      if (out(k, 0, 1)) {
        return OUTSIDE;
      }
      if (images[k] == null) {
        return STATE;
      }
      now = images[k].copy();
      return 1;
    }

    int told(int what) {
      Map<Integer, Integer> all = new HashMap<>();
      int[] plain = {pad.length(), now.cabin, bits(now.has), bits(now.seen), now.clock, now.bell, now.notes.size()};
      for (int i = 0; i < plain.length; i++) {
        all.put(i, plain[i]);
      }
      for (int i = 0; i < 10; i++) {
        all.put(10 + i, now.at[i]);
        all.put(100 + 10 * i, bits(now.in.get(i)));
        all.put(101 + 10 * i, now.wants[i]);
      }
      return all.getOrDefault(what, OUTSIDE);
    }
  }

  /** Of each row of towels the fewest changes, found by trying changes from all right on. */
  private static final Map<Integer, Integer> TOWELS = new HashMap<>();
  /** What wins first, or NONE, by going through all takes. */
  private static final int[][] WINNING = new int[21][21];

  private static void fillTables() {
    ArrayDeque<Integer> open = new ArrayDeque<>(List.of(12345));
    TOWELS.put(12345, 0);
    while (!open.isEmpty()) {
      int row = open.remove();
      for (int i = 0; i < 6; i++) {
        for (int j = i + 1; j < 6; j++) {
          char[] digits = String.format("%06d", row).toCharArray();
          char d = digits[i];
          digits[i] = digits[j];
          digits[j] = d;
          int next = Integer.parseInt(new String(digits));
          if (TOWELS.putIfAbsent(next, TOWELS.get(row) + 1) == null) {
            open.add(next);
          }
        }
      }
    }
    for (int a = 0; a <= 20; a++) {
      for (int b = 0; b <= 20; b++) {
        WINNING[a][b] = NONE;
        for (int i = a; i >= 0; i--) {
          for (int j = b; j >= 0; j--) {
            boolean allowed = i + j > 0 && (i == 0 || j == 0 || i == j);
            if (allowed && WINNING[a - i][b - j] == NONE) {
              WINNING[a][b] = 100 * i + j;
            }
          }
        }
      }
    }
  }

  private static void due(String call, long got, long want) {
    answers++;
    if (got != want) {
      wrong++;
      if (wrong <= 40) {
        System.out.println(call + " answered " + got + ", due is " + want);
      }
    }
  }

  private static void tables() {
    BathBaskets x = new BathBaskets();
    Model m = new Model();
    for (int row = -1000; row <= 1100000; row++) {
      // nothing is promised of an object's calls beyond the 512th
      x = row % 200 == 0 ? new BathBaskets() : x;
      if (TOWELS.containsKey(row)) {
        due("towels(" + row + ", 0)", x.towels(row, 0), m.towels(row, 0));
        due("towels(" + row + ", 1)", x.towels(row, 1), m.towels(row, 1));
      } else {
        due("towels(" + row + ", 0)", x.towels(row, 0), OUTSIDE);
      }
    }
    for (int a = -1; a <= 21; a++) {
      x = new BathBaskets();
      for (int b = -1; b <= 21; b++) {
        due("piles(" + a + ", " + b + ", 0)", x.piles(a, b, 0), m.piles(a, b, 0));
        due("piles(" + a + ", " + b + ", 1)", x.piles(a, b, 1), m.piles(a, b, 1));
      }
    }
    for (int n = 0; n <= 12; n++) {
      for (int k = 0; k <= 12; k++) {
        x = new BathBaskets();
        for (int t = 0; t <= 10; t += n > 9 ? 3 : 1) {
          for (int w = 0; w <= 3; w++) {
            String call = "lengths(" + k + ", " + n + ", " + t + ", " + w / 2 + ", " + w % 2 + ")";
            due(call, x.lengths(k, n, t, w / 2, w % 2), m.lengths(k, n, t, w / 2, w % 2));
          }
        }
      }
    }
  }

  /** Rounds and owners from many stands, more of them than drawn runs meet. */
  private static void searches() {
    Random draw = new Random(4);
    for (int i = 0; i < 400; i++) {
      BathBaskets x = new BathBaskets();
      Model m = new Model();
      int dense = 1 + draw.nextInt(4);
      for (int b = 0; b < 10; b++) {
        int things = draw.nextInt(256);
        for (int d = 1; d < dense; d++) {
          things &= draw.nextInt(256);
        }
        int v = 1 + draw.nextInt(dense < 3 ? 9 : 3);
        due("basket", x.basket(b, things, v), m.basket(b, things, v));
      }
      int cabin = draw.nextInt(10), seen = draw.nextInt(256) & draw.nextInt(256), clock = draw.nextInt(60);
      int bell = clock + draw.nextInt(40);
      due("attendant", x.attendant(cabin, 0, seen), m.attendant(cabin, 0, seen));
      due("clock", x.clock(clock, bell), m.clock(clock, bell));
      int goal = draw.nextInt(10), set = draw.nextInt(256);
      for (int what = 0; what <= 1; what++) {
        due("search " + i + ": round(" + goal + ", " + what + ")", x.round(goal, what), m.round(goal, what));
        due("search " + i + ": show(" + set + ", " + what + ")", x.show(set, what), m.show(set, what));
      }
      for (int thing = -1; thing < 8; thing++) {
        due("search " + i + ": owners(" + set + ", " + thing + ")", x.owners(set, thing), m.owners(set, thing));
        due("search " + i + ": owners(255, " + thing + ")", x.owners(255, thing), m.owners(255, thing));
      }
    }
  }

  /** Mostly a number from least to most, sometimes one beside it or far away. */
  private static int number(Random draw, int least, int most) {
    int[] strange = {least - 1, most + 1, -1, Integer.MIN_VALUE, Integer.MAX_VALUE, 256, 1024, -256};
    return draw.nextInt(24) == 0 ? strange[draw.nextInt(strange.length)] : least + draw.nextInt(most - least + 1);
  }

  private static int thingSet(Random draw) {
    int mask = draw.nextInt(3) == 0 ? 255 : draw.nextInt(256);
    return draw.nextInt(20) == 0 ? number(draw, 0, 255) : draw.nextInt(256) & mask;
  }

  private static int row(Random draw) {
    List<Integer> rows = new ArrayList<>(TOWELS.keySet());
    return draw.nextInt(8) == 0 ? number(draw, 0, 600000) : rows.get(draw.nextInt(rows.size()));
  }

  private static void oneCall(int run, BathBaskets x, Model m, Random draw) {
    int what = number(draw, 0, draw.nextInt(4));
    int a, b, c;
    switch (draw.nextInt(26)) {
      case 0: a = number(draw, 0, 9); b = thingSet(draw); c = number(draw, 1, 9);
        due(run + ": basket(" + a + ", " + b + ", " + c + ")", x.basket(a, b, c), m.basket(a, b, c)); break;
      case 1: if (draw.nextInt(4) == 0) { due(run + ": right()", x.right(), m.right()); } break;
      case 2: b = number(draw, 0, 99); a = number(draw, 0, draw.nextInt(4) == 0 ? 99 : Math.max(0, Math.min(b, 60)));
        due(run + ": clock(" + a + ", " + b + ")", x.clock(a, b), m.clock(a, b)); break;
      case 3: a = number(draw, 0, 9); b = thingSet(draw); c = thingSet(draw);
        due(run + ": attendant(" + a + ", " + b + ", " + c + ")", x.attendant(a, b, c), m.attendant(a, b, c)); break;
      case 4: a = number(draw, 33, 126); due(run + ": say(" + a + ")", x.say(a), m.say(a)); break;
      case 5: due(run + ": wipe()", x.wipe(), m.wipe()); break;
      case 6: due(run + ": done()", x.done(), m.done()); break;
      case 7: a = number(draw, 0, 9); due(run + ": round(" + a + ", " + what + ")", x.round(a, what), m.round(a, what)); break;
      case 8: a = thingSet(draw); due(run + ": show(" + a + ", " + what + ")", x.show(a, what), m.show(a, what)); break;
      case 9: a = thingSet(draw); b = number(draw, -1, 7);
        due(run + ": owners(" + a + ", " + b + ")", x.owners(a, b), m.owners(a, b)); break;
      case 10: a = row(draw); due(run + ": towels(" + a + ", " + what + ")", x.towels(a, what), m.towels(a, what)); break;
      case 11: a = number(draw, 0, 60); b = number(draw, 0, 7);
        due(run + ": found(" + a + ", " + b + ")", x.found(a, b), m.found(a, b)); break;
      case 12: if (draw.nextInt(3) == 0) { due(run + ": forget()", x.forget(), m.forget()); } break;
      case 13: a = number(draw, -1, 8); due(run + ": fits(" + a + ")", x.fits(a), m.fits(a)); break;
      case 14: due(run + ": ask(" + what + ")", x.ask(what), m.ask(what)); break;
      case 15: a = number(draw, 0, 20); b = number(draw, 0, 20);
        due(run + ": piles(" + a + ", " + b + ", " + what + ")", x.piles(a, b, what), m.piles(a, b, what)); break;
      case 16: a = number(draw, 0, 12); b = number(draw, 0, 8); c = number(draw, 0, 10); int part = number(draw, 0, 1);
        due(run + ": lengths(" + a + ", " + b + ", " + c + ", " + what + ", " + part + ")",
            x.lengths(a, b, c, what, part), m.lengths(a, b, c, what, part)); break;
      case 17: case 18: a = number(draw, 0, 9999); b = number(draw, 1, 99);
        due(run + ": year(" + a + ", " + b + ", " + what + ")", x.year(a, b, what), m.year(a, b, what)); break;
      case 19: a = number(draw, 0, 1); due(run + ": image(" + a + ")", x.image(a), m.image(a)); break;
      case 20: a = number(draw, 0, 1); due(run + ": restore(" + a + ")", x.restore(a), m.restore(a)); break;
      case 21: a = number(draw, 0, 220); due(run + ": told(" + a + ")", x.told(a), m.told(a)); break;
      default: due(run + ": fault()", x.fault(), m.fault()); break;
    }
  }

  /** A text of acts of which most can be. */
  private static void sayActs(int run, BathBaskets x, Model m, Random draw) {
    for (int n = draw.nextInt(8); n >= 0; n--) {
      Stand there = m.play() == 0 ? m.later : m.now;
      List<Integer> things = new ArrayList<>(draw.nextBoolean() ? there.has : there.in.get(there.at[there.cabin]));
      int thing = things.isEmpty() || draw.nextInt(5) == 0 ? draw.nextInt(8) : things.get(draw.nextInt(things.size()));
      char letter = (char) ('A' + draw.nextInt(10));
      String[] acts = {"" + letter, "?", "+" + thing, "-" + thing, "=" + letter, ".", "" + letter, "+" + thing};
      String act = acts[draw.nextInt(acts.length)];
      for (char sign : (draw.nextInt(40) == 0 ? act.substring(0, 1) : act).toCharArray()) {
        due(run + ": say(" + sign + ")", x.say(sign), m.say(sign));
      }
    }
  }

  private static void askEvening(int run, BathBaskets x, Model m, Random draw) {
    due(run + ": fault()", x.fault(), m.fault());
    for (int what = -1; what <= 4; what++) {
      due(run + ": judge(" + what + ") of " + m.pad, x.judge(what), m.judge(what));
      due(run + ": his(" + what + ") of " + m.pad, x.his(what), m.his(what));
      due(run + ": wrong(" + what + ") of " + m.pad, x.wrong(what), m.wrong(what));
      int cabin = number(draw, 0, 9);
      due(run + ": behind(" + cabin + ", " + what + ") of " + m.pad, x.behind(cabin, what), m.behind(cabin, what));
    }
  }

  private static void runs() {
    Random draw = new Random(77);
    for (int run = 0; run < 900; run++) {
      BathBaskets x = new BathBaskets();
      Model m = new Model();
      // a step makes some 50 calls at the most, and 205 come behind them: all of it stays below 512
      for (int start = answers; answers - start < 250;) {
        if (draw.nextInt(3) == 0) {
          sayActs(run, x, m, draw);
          askEvening(run, x, m, draw);
          if (draw.nextInt(3) > 0) {
            due(run + ": done()", x.done(), m.done());
          }
          if (draw.nextInt(4) > 0) {
            due(run + ": wipe()", x.wipe(), m.wipe());
          }
        }
        oneCall(run, x, m, draw);
      }
      for (int what = -2; what <= 202; what++) {
        due(run + ": told(" + what + ")", x.told(what), m.told(what));
      }
    }
  }

  /** All evenings of up to three signs that matter, so that every pair of acts is met. */
  private static void shortEvenings() {
    String signs = "ABJK?.+-=0178";
    Set<String> texts = new HashSet<>(Set.of(""));
    for (int n = 0; n < 3; n++) {
      Set<String> longer = new HashSet<>(texts);
      for (String text : texts) {
        for (char sign : signs.toCharArray()) {
          longer.add(text + sign);
        }
      }
      texts = longer;
    }
    Random draw = new Random(5);
    for (String text : new TreeSet<>(texts)) {
      BathBaskets x = new BathBaskets();
      Model m = new Model();
      for (int b = 0; b < 10; b++) {
        x.basket(b, 3 + b, 2 + b / 2);
        m.basket(b, 3 + b, 2 + b / 2);
      }
      x.attendant(1, 129, 0);
      m.attendant(1, 129, 0);
      x.clock(50, 59);
      m.clock(50, 59);
      for (char sign : text.toCharArray()) {
        due("say(" + sign + ")", x.say(sign), m.say(sign));
      }
      askEvening(-1, x, m, draw);
      due("done() of " + m.pad, x.done(), m.done());
    }
  }

  public static void main(String[] args) {
    fillTables();
    tables();
    searches();
    shortEvenings();
    runs();
    System.out.println(wrong == 0 ? "all answers are as due" : wrong + " answers are not as due");
    if (wrong != 0) {
      System.exit(1);
    }
  }
}
