/** Each promise of the document by answers worked out by hand: ordinary inputs, edges, refusals. */
public final class PromisesTest {
  private static final int UNKNOWN = -1, OUTSIDE = -2, STATE = -3, FULL = -4, NO = -5, NONE = -6;
  private static final int LEAST = Integer.MIN_VALUE, MOST = Integer.MAX_VALUE;
  private static int wrong = 0;

  private static void due(int promise, String what, long got, long want) {
    if (got != want) {
      wrong++;
      System.out.println("promise " + promise + ": " + what + " answered " + got + ", due is " + want);
    }
  }

  private static BathBaskets told(BathBaskets x, String signs) {
    x.wipe();
    for (int i = 0; i < signs.length(); i++) {
      x.say(signs.charAt(i));
    }
    return x;
  }

  private static BathBaskets evening(String signs) {
    return told(new BathBaskets(), signs);
  }

  /** All that told can tell, and all that is noted, as one text: two that are alike have the same. */
  private static String state(BathBaskets x) {
    StringBuilder text = new StringBuilder();
    for (int what = 0; what <= 6; what++) {
      text.append(x.told(what)).append(' ');
    }
    for (int i = 0; i < 10; i++) {
      text.append(x.told(10 + i)).append('/').append(x.told(100 + 10 * i)).append('/');
      text.append(x.told(101 + 10 * i)).append(' ');
    }
    text.append(x.fault()).append(' ').append(x.judge(0)).append(' ').append(x.judge(1));
    text.append(' ').append(x.fits(-1)).append(' ').append(x.fits(0)).append(' ').append(x.fits(1));
    return text.toString();
  }

  private static void unchanged(int promise, String what, String before, BathBaskets x) {
    if (!before.equals(state(x))) {
      wrong++;
      System.out.println("promise " + promise + ": " + what + " changed " + before + " to " + state(x));
    }
  }

  private static void newObject() {
    BathBaskets x = new BathBaskets();
    for (int i = 0; i < 10; i++) {
      due(1, "basket in cabin " + i, x.told(10 + i), i);
      due(1, "things in basket " + i, x.told(100 + 10 * i), 0);
      due(1, "minutes of basket " + i, x.told(101 + 10 * i), 3);
    }
    due(1, "signs", x.told(0), 0);
    due(1, "cabin", x.told(1), 0);
    due(1, "has", x.told(2), 0);
    due(1, "seen", x.told(3), 0);
    due(1, "clock", x.told(4), 0);
    due(1, "bell", x.told(5), 60);
    due(1, "notes", x.told(6), 0);
    due(1, "image 0", x.restore(0), STATE);
    due(1, "image 1", x.restore(1), STATE);
    new BathBaskets().basket(0, 7, 7);
    due(1, "objects share nothing", new BathBaskets().told(100), 0);
  }

  private static void basket() {
    BathBaskets x = new BathBaskets();
    due(2, "first", x.basket(0, 255, 9), 3);
    due(2, "as it was", x.basket(0, 0, 1), 2559);
    due(2, "as it was then", x.basket(0, 5, 4), 1);
    due(2, "last basket", x.basket(9, 6, 2), 3);
    due(2, "things", x.told(190), 6);
    due(2, "minutes", x.told(191), 2);
    due(2, "others are as they were", x.told(180), 0);
    // a basket is meant, not the cabin where it stands
    told(x, "=J").done();
    due(2, "basket 0 stands at 9", x.basket(0, 9, 8), 54);
    due(2, "there", x.behind(9, 1), 9);
    String before = state(x);
    int[][] refused = {
        {-1, 0, 1, UNKNOWN}, {10, 0, 1, UNKNOWN}, {LEAST, 0, 1, UNKNOWN}, {MOST, 0, 1, UNKNOWN},
        {-1, 256, 0, UNKNOWN}, {10, -1, 10, UNKNOWN},
        {0, -1, 1, OUTSIDE}, {0, 256, 1, OUTSIDE}, {0, 0, 0, OUTSIDE}, {0, 0, 10, OUTSIDE},
        {9, LEAST, 1, OUTSIDE}, {9, MOST, 1, OUTSIDE}, {9, 0, LEAST, OUTSIDE}, {9, 0, MOST, OUTSIDE}};
    for (int[] r : refused) {
      due(2, "basket(" + r[0] + ", " + r[1] + ", " + r[2] + ")", x.basket(r[0], r[1], r[2]), r[3]);
    }
    unchanged(2, "refusals", before, x);
  }

  private static void right() {
    BathBaskets x = new BathBaskets();
    due(3, "all right", x.right(), 0);
    told(x, "=B=C").done();
    due(3, "baskets stand elsewhere", x.told(10), 2);
    due(3, "three have another", x.right(), 3);
    due(3, "again", x.right(), 0);
    for (int i = 0; i < 10; i++) {
      due(3, "cabin " + i, x.told(10 + i), i);
    }
    x.basket(4, 7, 7);
    x.attendant(3, 1, 2);
    x.clock(5, 6);
    x.found(1, 1);
    told(x, "E");
    String before = state(x);
    x.right();
    unchanged(3, "right() where all is right", before, x);
  }

  private static void clock() {
    BathBaskets x = new BathBaskets();
    due(4, "at first", x.clock(99, 0), 60);
    due(4, "edges", x.clock(0, 99), 9900);
    due(4, "edges", x.clock(12, 34), 99);
    due(4, "clock", x.told(4), 12);
    due(4, "bell", x.told(5), 34);
    String before = state(x);
    int[][] refused = {{-1, 0}, {100, 0}, {0, -1}, {0, 100}, {LEAST, 1}, {MOST, 1}, {1, LEAST}, {1, MOST}};
    for (int[] r : refused) {
      due(4, "clock(" + r[0] + ", " + r[1] + ")", x.clock(r[0], r[1]), OUTSIDE);
    }
    unchanged(4, "refusals", before, x);
  }

  private static void attendant() {
    BathBaskets x = new BathBaskets();
    due(5, "at first", x.attendant(9, 255, 0), 0);
    due(5, "where he was", x.attendant(4, 0, 255), 9);
    due(5, "where he was", x.attendant(2, 5, 6), 4);
    due(5, "cabin", x.told(1), 2);
    due(5, "has", x.told(2), 5);
    due(5, "seen", x.told(3), 6);
    String before = state(x);
    int[][] refused = {
        {-1, 0, 0, UNKNOWN}, {10, 0, 0, UNKNOWN}, {10, 256, -1, UNKNOWN}, {LEAST, 0, 0, UNKNOWN},
        {MOST, 0, 0, UNKNOWN},
        {0, -1, 0, OUTSIDE}, {0, 256, 0, OUTSIDE}, {0, 0, -1, OUTSIDE}, {0, 0, 256, OUTSIDE},
        {0, LEAST, 0, OUTSIDE}, {0, 0, MOST, OUTSIDE}};
    for (int[] r : refused) {
      due(5, "attendant(" + r[0] + ", " + r[1] + ", " + r[2] + ")", x.attendant(r[0], r[1], r[2]), r[3]);
    }
    unchanged(5, "refusals", before, x);
  }

  private static void say() {
    BathBaskets x = new BathBaskets();
    for (int sign : new int[] {32, 127, 0, -1, 'A' + 256, LEAST, MOST}) {
      due(6, "say(" + sign + ")", x.say(sign), OUTSIDE);
    }
    due(6, "nothing was said", x.told(0), 0);
    due(6, "the least sign", x.say(33), 1);
    due(6, "the greatest sign", x.say(126), 2);
    x.wipe();
    for (int i = 1; i <= 60; i++) {
      due(6, "sign " + i, x.say('.'), i);
    }
    String before = state(x);
    due(6, "one more", x.say('?'), FULL);
    due(6, "no sign, on a full pad", x.say(32), OUTSIDE);
    unchanged(6, "refusals", before, x);
    due(6, "60 minutes can be", x.his(3), 60);
  }

  private static void wipe() {
    BathBaskets x = new BathBaskets();
    due(7, "empty", x.wipe(), 0);
    told(x, "B?x");
    due(7, "three", x.wipe(), 3);
    due(7, "then none", x.wipe(), 0);
    due(7, "no fault is left", x.fault(), NONE);
    due(7, "told", x.told(0), 0);
    x.basket(4, 7, 7);
    x.found(1, 1);
    String before = state(x);
    told(x, "B=C");
    x.wipe();
    unchanged(7, "wipe", before, x);
  }

  private static void fault() {
    Object[][] texts = {
        {"", NONE}, {"A", NONE}, {"J", NONE}, {"K", 0}, {"@", 0}, {"a", 0}, {"?", NONE}, {".", NONE}, {"0", 0},
        {"!", 0}, {"~", 0}, {"+", 1}, {"-", 1}, {"=", 1}, {"+0", NONE}, {"+7", NONE}, {"+8", 1}, {"+/", 1},
        {"-0", NONE}, {"-7", NONE}, {"-8", 1}, {"-A", 1}, {"+A", 1}, {"=A", NONE}, {"=J", NONE}, {"=K", 1},
        {"=@", 1}, {"=0", 1}, {"==", 1}, {"+-", 1}, {"-+", 1}, {"+?", 1}, {"A?+3-2=B.", NONE}, {"A?+3-2=B.7", 9},
        {"A?+3-2=B.=", 10}, {"+0+1+", 5}, {"+00", 2}, {"=AB", NONE}, {"=A0", 2}, {"AK+", 1}};
    for (Object[] t : texts) {
      due(8, "fault of " + t[0], evening((String) t[0]).fault(), (Integer) t[1]);
    }
    BathBaskets x = evening("+9");
    due(8, "a first fault stays the first", x.fault(), 1);
    x.say('A');
    due(8, "a first fault stays the first", x.fault(), 1);
    StringBuilder full = new StringBuilder(".");
    for (int i = 0; i < 29; i++) {
      full.append("+0");
    }
    due(8, "more must come than there is room for", evening(full + "=").fault(), 60);
    due(8, "a full pad", evening(full + ".").fault(), NONE);
  }

  private static void judge() {
    Object[][] cases = {
        {"", NONE, NONE, 0}, {"A", 0, 1, STATE}, {"=A", 0, 1, STATE}, {"BB", 1, 1, STATE}, {"B=B", 1, 1, STATE},
        {"+0", 0, 2, STATE}, {"-0", 0, 2, STATE}, {"+4", NONE, NONE, 0}, {"+1", 0, 2, STATE}, {"+5", 0, 3, STATE},
        {"-6", NONE, NONE, 0}, {"-5", 0, 3, STATE}, {"+4+4", 1, 2, STATE}, {"-6-6", 1, 2, STATE},
        {"+4-4+4", NONE, NONE, 0}, {"?", NONE, NONE, 1}, {"??", NONE, NONE, 1}, {"B?A?", NONE, NONE, 3},
        {"=J?", NONE, NONE, 512}, {"=JJ?", NONE, NONE, 1}, {"J?I?J", NONE, NONE, 768},
        {"J?J", 2, 1, STATE}, {"..?", NONE, NONE, 1}, {"+5A", 0, 3, STATE}};
    for (Object[] c : cases) {
      BathBaskets x = evening((String) c[0]);
      x.attendant(0, 1 << 4 | 1 << 5, 0);
      x.basket(0, 1 << 5 | 1 << 6, 2);
      due(9, "act of " + c[0], x.judge(0), (Integer) c[1]);
      due(9, "why of " + c[0], x.judge(1), (Integer) c[2]);
      due(9, "baskets of " + c[0], x.judge(2), (Integer) c[3]);
    }
    judgeByTheBell();
    BathBaskets x = evening("B+");
    String before = state(x);
    due(9, "what", x.judge(-1), OUTSIDE);
    due(9, "what", x.judge(3), OUTSIDE);
    due(9, "what", x.judge(MOST), OUTSIDE);
    for (int what = 0; what <= 2; what++) {
      due(9, "a fault, " + what, x.judge(what), NO);
    }
    unchanged(9, "refusals", before, x);
    due(9, "a fault behind an act that can not be", evening("Ax").judge(0), NO);
    x = evening("B?=A");
    before = state(x);
    due(9, "one evening", x.judge(2), 2);
    unchanged(9, "judging", before, x);
    told(x, "C?");
    due(9, "another evening", x.judge(2), 4);
  }

  private static void judgeByTheBell() {
    Object[][] cases = {
        {"E", 56, NONE}, {"E", 57, 4}, {"?", 57, NONE}, {"?", 58, 4}, {".", 59, NONE}, {".", 60, 4},
        {"A", 60, 1}, {"+0", 99, 2}, {"=B", 99, NONE}, {"-1", 99, NONE}, {"-1+1", 99, NONE}, {"B?.", 55, NONE},
        {"B?.", 56, 4}, {"=A", 99, 1}};
    for (Object[] c : cases) {
      BathBaskets x = evening((String) c[0]);
      x.basket(0, 2, 3);
      x.clock((Integer) c[1], 60);
      due(9, "why of " + c[0] + " at " + c[1], x.judge(1), (Integer) c[2]);
    }
    BathBaskets back = evening("JA");
    back.clock(0, 17);
    due(9, "there and not back", back.judge(0), 1);
    due(9, "why not back", back.judge(1), 4);
    back.clock(0, 18);
    due(9, "there and back", back.judge(0), NONE);
  }

  private static void behind() {
    BathBaskets x = evening("C=F+1F?-3");
    x.attendant(0, 2, 0);
    x.basket(2, 9, 1);
    x.basket(5, 16, 1);
    due(10, "basket at C", x.behind(2, 0), 5);
    due(10, "things at C", x.behind(2, 1), 18);
    due(10, "basket at F", x.behind(5, 0), 2);
    due(10, "things at F", x.behind(5, 1), 1);
    due(10, "basket at J", x.behind(9, 0), 9);
    due(10, "nothing is done in fact", x.told(12), 2);
    due(10, "nothing is done in fact", x.told(150), 16);
    int[][] refused = {{-1, 0, UNKNOWN}, {10, 0, UNKNOWN}, {10, 2, UNKNOWN}, {LEAST, LEAST, UNKNOWN},
        {0, -1, OUTSIDE}, {0, 2, OUTSIDE}, {9, MOST, OUTSIDE}};
    String before = state(x);
    for (int[] r : refused) {
      due(10, "behind(" + r[0] + ", " + r[1] + ")", x.behind(r[0], r[1]), r[2]);
      due(10, "with a fault, behind(" + r[0] + ", " + r[1] + ")", evening("x").behind(r[0], r[1]), r[2]);
    }
    unchanged(10, "behind", before, x);
    due(10, "a fault", evening("B=").behind(0, 0), NO);
    due(10, "a fault", evening("B=").behind(9, 1), NO);
    due(10, "an act that can not be", evening("BB").behind(0, 0), STATE);
    due(10, "an act that can not be", evening("BB").behind(0, 1), STATE);
  }

  private static void his() {
    BathBaskets x = evening("D?-1+5.B");
    x.attendant(1, 32, 64);
    x.basket(3, 6, 4);
    x.clock(10, 20);
    due(11, "cabin", x.his(0), 1);
    due(11, "has", x.his(1), 2);
    due(11, "seen", x.his(2), 70);
    due(11, "clock", x.his(3), 19);
    told(x, "D-1");
    due(11, "what is taken is seen", x.his(2), 66);
    due(11, "what is taken he has", x.his(1), 34);
    told(x, "+5");
    due(11, "what is laid is not seen by it", x.his(2), 64);
    due(11, "what is laid he has no more", x.his(1), 0);
    told(x, "=D?");
    due(11, "the basket that came is gone through", x.his(2), 70);
    due(11, "so long as that one wants", x.his(3), 14);
    due(11, "he stays where he was", x.his(0), 1);
    told(x, "J");
    due(11, "eight minutes to J", x.his(3), 18);
    told(x, "");
    due(11, "an empty pad", x.his(0), 1);
    due(11, "an empty pad", x.his(3), 10);
    String before = state(x);
    due(11, "what", x.his(-1), OUTSIDE);
    due(11, "what", x.his(4), OUTSIDE);
    due(11, "what", x.his(LEAST), OUTSIDE);
    unchanged(11, "his", before, x);
    due(11, "what, with a fault", evening("x").his(4), OUTSIDE);
    for (int what = 0; what <= 3; what++) {
      due(11, "a fault", evening("B-").his(what), NO);
      due(11, "an act that can not be", evening("-0").his(what), STATE);
    }
  }

  private static void wrong() {
    Object[][] cases = {
        {"", 0, NONE, NONE}, {"B.?", 0, NONE, NONE}, {"=J", 2, 0, 0}, {"J=A", 2, 1, 0}, {".C=B", 2, 2, 1},
        {"=B=C", 3, 0, 0}, {"=B=B", 0, 0, 0}, {"D=E=E=F", 2, 1, 3}, {"=B=B=C=C", 0, 0, 0}};
    for (Object[] c : cases) {
      BathBaskets x = evening((String) c[0]);
      due(12, "how many of " + c[0], x.wrong(0), (Integer) c[1]);
      due(12, "act of " + c[0], x.wrong(1), (Integer) c[2]);
      due(12, "which of " + c[0], x.wrong(2), (Integer) c[3]);
    }
    wrongFromDisorder();
    BathBaskets x = evening("=J");
    String before = state(x);
    due(12, "what", x.wrong(-1), OUTSIDE);
    due(12, "what", x.wrong(3), OUTSIDE);
    x.wrong(0);
    unchanged(12, "wrong", before, x);
    due(12, "what, with a fault", evening("x").wrong(3), OUTSIDE);
    for (int what = 0; what <= 2; what++) {
      due(12, "a fault", evening("=").wrong(what), NO);
      due(12, "an act that can not be", evening("=A").wrong(what), STATE);
    }
  }

  /** Cabins 0 and 9 have each other's before the evenings begin. */
  private static void wrongFromDisorder() {
    BathBaskets x = evening("=J");
    x.done();
    due(12, "how many before", x.wrong(0), 2);
    due(12, "no act of this evening", x.wrong(1), NONE);
    due(12, "no cabin of this evening", x.wrong(2), NONE);
    told(x, "=J");
    due(12, "put right: how many", x.wrong(0), 0);
    due(12, "put right: no loss", x.wrong(1), NONE);
    told(x, "=F");
    due(12, "only the greater one had its own", x.wrong(1), 0);
    due(12, "only the greater one had its own", x.wrong(2), 5);
    told(x, "J=F");
    due(12, "only the lesser one had its own", x.wrong(2), 5);
    told(x, "=J=J");
    due(12, "right and lost again", x.wrong(1), 1);
    due(12, "right and lost again", x.wrong(2), 0);
    told(x, "=J=F=J");
    due(12, "how many in the end", x.wrong(0), 3);
    due(12, "the act that loses", x.wrong(1), 1);
  }

  private static void done() {
    BathBaskets x = evening("C-0+3=D?");
    x.basket(2, 1, 4);
    x.basket(3, 128, 5);
    x.attendant(1, 8, 0);
    x.clock(7, 50);
    due(13, "acts", x.done(), 5);
    due(13, "the pad is empty", x.told(0), 0);
    due(13, "cabin", x.told(1), 2);
    due(13, "has", x.told(2), 1);
    due(13, "seen", x.told(3), 129);
    due(13, "clock", x.told(4), 13);
    due(13, "bell", x.told(5), 50);
    due(13, "basket at C", x.told(12), 3);
    due(13, "basket at D", x.told(13), 2);
    due(13, "things of 2", x.told(120), 8);
    due(13, "minutes of 2", x.told(121), 4);
    due(13, "nothing more", x.done(), 0);
    told(x, "B+");
    String before = state(x);
    due(13, "a fault", x.done(), NO);
    unchanged(13, "a fault", before, x);
    told(x, "B?B");
    before = state(x);
    due(13, "an act that can not be", x.done(), STATE);
    unchanged(13, "an act that can not be", before, x);
  }

  private static void round() {
    BathBaskets x = new BathBaskets();
    due(14, "all by the bell", x.round(0, 0), 10);
    due(14, "all, to the other end", x.round(9, 1), 1023);
    x.clock(0, 47);
    due(14, "48 minutes for all and back", x.round(0, 0), 9);
    due(14, "the least nine", x.round(0, 1), 511);
    x.clock(0, 48);
    due(14, "48 minutes for all and back", x.round(0, 0), 10);
    x.attendant(5, 0, 0);
    x.basket(4, 0, 1);
    x.basket(6, 0, 1);
    x.clock(0, 3);
    due(14, "one of two neighbours: the least as bits", x.round(5, 1), 16);
    due(14, "one of two", x.round(5, 0), 1);
    due(14, "on to the next: by the way", x.round(6, 1), 64);
    due(14, "over there and back", x.round(4, 0), 1);
    x.clock(0, 6);
    due(14, "his own and the least neighbour", x.round(5, 1), 48);
    x.basket(5, 0, 9);
    due(14, "both neighbours", x.round(5, 1), 80);
    x.clock(10, 12);
    due(14, "just there, no basket", x.round(7, 0), 0);
    due(14, "just there, no basket", x.round(7, 1), 0);
    due(14, "not in time", x.round(8, 0), NONE);
    due(14, "not in time", x.round(8, 1), NONE);
    x.clock(12, 12);
    due(14, "at the bell he is there", x.round(5, 0), 0);
    x.clock(13, 12);
    due(14, "behind the bell he is not", x.round(5, 0), NONE);
    roundByBasketsWhereTheyStand();
    String before = state(x);
    int[][] refused = {{-1, 0, UNKNOWN}, {10, 0, UNKNOWN}, {10, 2, UNKNOWN}, {MOST, 0, UNKNOWN},
        {0, -1, OUTSIDE}, {0, 2, OUTSIDE}, {9, LEAST, OUTSIDE}};
    for (int[] r : refused) {
      due(14, "round(" + r[0] + ", " + r[1] + ")", x.round(r[0], r[1]), r[2]);
    }
    unchanged(14, "round", before, x);
    BathBaskets faulty = evening("x");
    due(14, "the pad does not count", faulty.round(0, 0), 10);
  }

  private static void roundByBasketsWhereTheyStand() {
    BathBaskets x = evening("=C");
    x.basket(0, 0, 9);
    x.basket(2, 0, 1);
    x.done();
    x.clock(0, 1);
    due(14, "basket 2 stands at cabin 0", x.round(0, 0), 1);
    due(14, "cabins are told, not baskets", x.round(0, 1), 1);
    x.clock(0, 10);
    due(14, "basket 0 stands at cabin 2", x.round(2, 1), 3);
    x.clock(0, 11);
    due(14, "beyond the goal and back", x.round(2, 1), 11);
  }

  private static void show() {
    BathBaskets x = new BathBaskets();
    due(15, "nothing to show", x.show(0, 0), 0);
    due(15, "nothing to show", x.show(0, 1), 0);
    due(15, "nowhere", x.show(128, 0), NONE);
    due(15, "nowhere", x.show(128, 1), NONE);
    x.basket(1, 3, 9);
    x.basket(2, 12, 1);
    x.basket(3, 5, 1);
    x.basket(4, 10, 1);
    x.basket(9, 14, 1);
    due(15, "two for four", x.show(15, 0), 2);
    due(15, "the least two", x.show(15, 1), 6);
    due(15, "one for three", x.show(14, 1), 512);
    due(15, "the least one", x.show(2, 1), 2);
    x.attendant(0, 1, 0);
    due(15, "what he has is not seen", x.show(15, 0), 2);
    x.attendant(0, 0, 1);
    due(15, "what he has seen needs none", x.show(15, 1), 512);
    x.attendant(0, 0, 255);
    due(15, "all is seen", x.show(255, 0), 0);
    x.attendant(0, 0, 240);
    due(15, "seen and shown", x.show(255, 0), 2);
    told(x, "=B").done();
    due(15, "baskets are told, not cabins", x.show(2, 1), 2);
    x.basket(0, 2, 1);
    due(15, "basket 0, too", x.show(2, 1), 1);
    String before = state(x);
    int[][] refused = {{-1, 0}, {256, 0}, {0, -1}, {0, 2}, {LEAST, 0}, {MOST, 1}, {255, MOST}};
    for (int[] r : refused) {
      due(15, "show(" + r[0] + ", " + r[1] + ")", x.show(r[0], r[1]), OUTSIDE);
    }
    unchanged(15, "show", before, x);
  }

  private static void owners() {
    BathBaskets x = new BathBaskets();
    due(16, "none", x.owners(255, -1), 0);
    due(16, "none", x.owners(255, 7), NONE);
    x.basket(2, 1 | 2, 1);
    x.basket(5, 1, 1);
    x.basket(7, 4 | 8, 1);
    due(16, "three at once", x.owners(255, -1), 3);
    due(16, "0 leaves 2 to 1", x.owners(255, 0), 5);
    due(16, "1 can 2 alone", x.owners(255, 1), 2);
    due(16, "2 comes before 3", x.owners(255, 2), 7);
    due(16, "3 has none left", x.owners(255, 3), NONE);
    due(16, "3 alone", x.owners(8, 3), 7);
    due(16, "not of the set", x.owners(8, 2), NONE);
    due(16, "0 alone takes the least", x.owners(1, 0), 2);
    due(16, "the empty set", x.owners(0, -1), 0);
    due(16, "a thing in no basket", x.owners(128, -1), 0);
    x.basket(2, 2, 1);
    x.basket(5, 2, 1);
    due(16, "thing 0 in no basket", x.owners(1, -1), 0);
    due(16, "thing 0 in no basket", x.owners(3, -1), 1);
    due(16, "thing 0 in no basket", x.owners(3, 0), NONE);
    due(16, "thing 0 in no basket", x.owners(3, 1), 2);
    x.basket(2, 1 | 2, 1);
    x.basket(5, 0, 1);
    due(16, "0 before 1", x.owners(3, 0), 2);
    due(16, "0 before 1", x.owners(3, 1), NONE);
    for (int i = 0; i < 10; i++) {
      x.basket(i, 255, 1);
    }
    due(16, "all eight", x.owners(255, -1), 8);
    due(16, "in order", x.owners(255, 7), 7);
    String before = state(x);
    int[][] refused = {{0, 8, UNKNOWN}, {0, -2, UNKNOWN}, {256, 8, UNKNOWN}, {-1, -2, UNKNOWN}, {0, LEAST, UNKNOWN},
        {0, MOST, UNKNOWN}, {256, -1, OUTSIDE}, {-1, 0, OUTSIDE}, {MOST, 7, OUTSIDE}, {LEAST, 7, OUTSIDE}};
    for (int[] r : refused) {
      due(16, "owners(" + r[0] + ", " + r[1] + ")", x.owners(r[0], r[1]), r[2]);
    }
    unchanged(16, "owners", before, x);
  }

  private static void towels() {
    BathBaskets x = new BathBaskets();
    int[][] rows = {
        {12345, 0, 1}, {102345, 1, 2}, {103254, 3, 2}, {120345, 2, 3}, {123045, 3, 4}, {123405, 4, 5},
        {123450, 5, 6}, {123054, 4, 4}, {120435, 3, 6}, {543210, 3, 2}, {120453, 4, 3}, {501234, 5, 6},
        {21345, 1, 2}, {12354, 1, 2}};
    for (int[] r : rows) {
      due(17, "changes of " + r[0], x.towels(r[0], 0), r[1]);
      due(17, "how often of " + r[0], x.towels(r[0], 1), r[2]);
    }
    String before = state(x);
    int[] none = {0, 1, 11345, 121345, 512345, 12346, 12344, 1234, 612345, 1012345, 6012345, 1123450, -12345, -543210, -10, LEAST, MOST};
    for (int row : none) {
      due(17, "row " + row, x.towels(row, 0), OUTSIDE);
      due(17, "row " + row, x.towels(row, 1), OUTSIDE);
    }
    due(17, "what", x.towels(12345, -1), OUTSIDE);
    due(17, "what", x.towels(12345, 2), OUTSIDE);
    unchanged(17, "towels", before, x);
  }

  private static void found() {
    BathBaskets x = new BathBaskets();
    for (int i = 1; i <= 4; i++) {
      due(18, "note", x.found(60, 7), 2 * i - 1);
      due(18, "note", x.found(0, 0), 2 * i);
    }
    String before = state(x);
    due(18, "a ninth", x.found(0, 0), FULL);
    due(18, "a ninth that is none", x.found(0, 8), UNKNOWN);
    due(18, "a ninth that is none", x.found(61, 0), OUTSIDE);
    unchanged(18, "refusals of a full book", before, x);
    x.forget();
    int[][] refused = {{0, -1, UNKNOWN}, {0, 8, UNKNOWN}, {61, 8, UNKNOWN}, {-1, -1, UNKNOWN}, {0, LEAST, UNKNOWN},
        {-1, 0, OUTSIDE}, {61, 7, OUTSIDE}, {MOST, 0, OUTSIDE}};
    for (int[] r : refused) {
      due(18, "found(" + r[0] + ", " + r[1] + ")", x.found(r[0], r[1]), r[2]);
    }
    due(18, "no note", x.told(6), 0);
  }

  private static void forget() {
    BathBaskets x = new BathBaskets();
    due(19, "none", x.forget(), 0);
    x.found(0, 3);
    x.found(0, 4);
    due(19, "nothing fits", x.fits(-1), 0);
    due(19, "two", x.forget(), 2);
    due(19, "told", x.told(6), 0);
    due(19, "all fit again", x.fits(-1), 64);
    due(19, "then none", x.forget(), 0);
    x.basket(1, 2, 3);
    told(x, "B");
    String before = state(x);
    x.found(3, 4);
    x.forget();
    unchanged(19, "forget", before, x);
  }

  private static void fits() {
    BathBaskets x = new BathBaskets();
    due(20, "all", x.fits(-1), 64);
    for (int i = 0; i < 64; i++) {
      due(20, "the " + i + "th", x.fits(i), 10 * (i / 8) + i % 8);
    }
    for (int i : new int[] {64, 65, -2, -3, LEAST, MOST}) {
      due(20, "fits(" + i + ")", x.fits(i), NONE);
    }
    x.found(2, 5);
    due(20, "2 a and b is 5", x.fits(-1), 8);
    int[] laws = {5, 13, 21, 37, 45, 53, 61, 77};
    for (int i = 0; i < 8; i++) {
      due(20, "2 a and b is 5, " + i, x.fits(i), laws[i]);
    }
    due(20, "no ninth", x.fits(8), NONE);
    x.found(60, 3);
    due(20, "4 a and b is 3", x.fits(-1), 2);
    due(20, "4 a and b is 3", x.fits(0), 37);
    due(20, "4 a and b is 3", x.fits(1), 77);
    x.found(59, 0);
    due(20, "one is left", x.fits(-1), 1);
    due(20, "one is left", x.fits(0), 37);
    x.found(59, 1);
    due(20, "none is left", x.fits(-1), 0);
    due(20, "none is left", x.fits(0), NONE);
  }

  private static void ask() {
    BathBaskets x = new BathBaskets();
    due(21, "the first day", x.ask(0), 0);
    due(21, "eight are left", x.ask(1), 8);
    x.found(0, 6);
    due(21, "the next day", x.ask(0), 1);
    due(21, "one is left", x.ask(1), 1);
    x.forget();
    x.found(2, 5);
    due(21, "b tells a by fewer", x.ask(0), 1);
    due(21, "one is left", x.ask(1), 1);
    x.forget();
    x.found(1, 5);
    due(21, "b alone tells all", x.ask(0), 0);
    x.found(3, 5);
    due(21, "two are left", x.fits(-1), 2);
    due(21, "day 0 tells them", x.ask(0), 0);
    due(21, "one is left", x.ask(1), 1);
    x.found(2, 5);
    due(21, "one fits: any day, the least", x.ask(0), 0);
    due(21, "one fits", x.ask(1), 1);
    String before = state(x);
    due(21, "what", x.ask(-1), OUTSIDE);
    due(21, "what", x.ask(2), OUTSIDE);
    unchanged(21, "ask", before, x);
    x.found(2, 6);
    due(21, "nothing fits", x.ask(0), NONE);
    due(21, "nothing fits", x.ask(1), NONE);
    due(21, "what, where nothing fits", x.ask(2), OUTSIDE);
  }

  private static void piles() {
    BathBaskets x = new BathBaskets();
    int[][] lost = {{0, 0}, {1, 2}, {3, 5}, {4, 7}, {6, 10}, {8, 13}, {9, 15}, {11, 18}, {12, 20}};
    int count = 0;
    for (int a = 0; a <= 20; a++) {
      for (int b = 0; b <= 20; b++) {
        count += 1 - x.piles(a, b, 0);
      }
    }
    due(22, "lost pairs", count, 17);
    x = new BathBaskets();
    for (int[] l : lost) {
      due(22, "lost", x.piles(l[0], l[1], 0), 0);
      due(22, "lost", x.piles(l[1], l[0], 0), 0);
      due(22, "lost", x.piles(l[0], l[1], 1), NONE);
      due(22, "lost", x.piles(l[1], l[0], 1), NONE);
    }
    int[][] won = {{1, 0, 100}, {0, 1, 1}, {1, 1, 101}, {2, 2, 1}, {3, 3, 303}, {5, 6, 3}, {20, 20, 8}, {7, 5, 1},
        {14, 14, 1414}, {5, 5, 2}, {12, 19, 101}, {20, 19, 7}, {20, 5, 1700}, {20, 0, 2000}, {0, 20, 20}};
    for (int[] w : won) {
      due(22, "piles(" + w[0] + ", " + w[1] + ", 0)", x.piles(w[0], w[1], 0), 1);
      due(22, "piles(" + w[0] + ", " + w[1] + ", 1)", x.piles(w[0], w[1], 1), w[2]);
    }
    String before = state(x);
    int[][] refused = {{-1, 0, 0}, {21, 0, 0}, {0, -1, 0}, {0, 21, 0}, {0, 0, -1}, {0, 0, 2}, {MOST, LEAST, 0}};
    for (int[] r : refused) {
      due(22, "piles(" + r[0] + ", " + r[1] + ", " + r[2] + ")", x.piles(r[0], r[1], r[2]), OUTSIDE);
    }
    unchanged(22, "piles", before, x);
  }

  private static void lengths() {
    BathBaskets x = new BathBaskets();
    long[][] cases = {
        {0, 0, 0, 0, 1, 1}, {0, 0, 0, 1, 0, 1}, {1, 0, 10, 0, 0, 1}, {1, 1, 10, 0, 1, 1}, {1, 1, 5, 0, 1, 2},
        {1, 2, 5, 0, 3, 4}, {2, 2, 5, 0, 1, 4}, {1, 2, 5, 1, 3, 4}, {2, 2, 5, 1, 1, 1}, {2, 3, 1, 0, 7, 250},
        {3, 3, 2, 0, 1, 125}, {12, 12, 10, 0, 1, 1}, {12, 12, 10, 1, 12, 1}, {12, 12, 0, 0, 0, 1},
        {12, 12, 0, 1, 0, 1}, {0, 12, 3, 0, 1, 1}, {0, 12, 3, 1, 0, 1}, {12, 11, 10, 0, 0, 1}, {12, 11, 10, 1, 11, 1},
        {12, 12, 1, 0, 1, 1000000000000L}, {1, 12, 1, 0, 717570463519L, 1000000000000L}, {12, 12, 7, 1, 42, 5},
        {1, 1, 4, 1, 2, 5}};
    for (long[] c : cases) {
      String call = "lengths(" + c[0] + ", " + c[1] + ", " + c[2] + ", " + c[3] + ")";
      due(23, call, x.lengths((int) c[0], (int) c[1], (int) c[2], (int) c[3], 0), c[4]);
      due(23, call + " lower", x.lengths((int) c[0], (int) c[1], (int) c[2], (int) c[3], 1), c[5]);
    }
    String before = state(x);
    int[][] refused = {{-1, 0, 0, 0, 0}, {13, 0, 0, 0, 0}, {0, -1, 0, 0, 0}, {0, 13, 0, 0, 0}, {0, 0, -1, 0, 0},
        {0, 0, 11, 0, 0}, {0, 0, 0, -1, 0}, {0, 0, 0, 2, 0}, {0, 0, 0, 0, -1}, {0, 0, 0, 0, 2},
        {LEAST, MOST, LEAST, MOST, LEAST}};
    for (int[] r : refused) {
      due(23, "refused", x.lengths(r[0], r[1], r[2], r[3], r[4]), -1000000000000000002L);
    }
    unchanged(23, "lengths", before, x);
  }

  private static void year() {
    BathBaskets x = new BathBaskets();
    // seed 0: 74 = 9 * 8 + 2 (?), 5624 = 703 * 8 + 0 (to 3), 28652 = 3581 * 8 + 4 (lays 5), ...
    x.basket(0, 7, 4);
    due(24, "goes through", x.year(0, 1, 0), 4);
    due(24, "has seen three", x.year(0, 1, 1), 3);
    due(24, "goes to 3", x.year(0, 2, 0), 7);
    due(24, "can not lay 5", x.year(0, 3, 0), 7);
    due(24, "nothing changed", x.year(0, 1, 2), 0);
    due(24, "nothing is done in fact", x.told(4), 0);
    // seed 12: 974 = 121 * 8 + 6: changed with cabin 1
    due(24, "changed", x.year(12, 1, 2), 2);
    due(24, "no minute by it", x.year(12, 1, 0), 0);
    due(24, "in fact not changed", x.told(10), 0);
    // seed 9: 749 = 93 * 8 + 5: takes 93 left over by 8: 5
    x.basket(0, 32, 4);
    due(24, "takes 5", x.year(9, 1, 1), 1);
    x.attendant(0, 32, 0);
    due(24, "can not take 5", x.year(9, 1, 1), 0);
    // seed 3: 299 = 37 * 8 + 3: goes through
    x.clock(57, 60);
    due(24, "too late", x.year(3, 1, 0), 57);
    x.clock(56, 60);
    due(24, "in time", x.year(3, 1, 0), 60);
    // seed 1: 149 = 18 * 8 + 5: can not take 2; seed 7: 599 = 74 * 8 + 7: a minute
    due(24, "a minute", x.year(7, 1, 0), 57);
    // seed 9999: 29092 = 3636 * 8 + 4: can not lay 4; 19253 = 2406 * 8 + 5: takes 6; 2235 = 279 * 8 + 3: goes through
    x.clock(0, 60);
    x.basket(0, 64 | 3, 7);
    x.attendant(0, 0, 4);
    due(24, "can not lay 4", x.year(9999, 1, 0), 0);
    due(24, "takes 6", x.year(9999, 2, 1), 2);
    due(24, "goes through", x.year(9999, 3, 0), 7);
    due(24, "goes through what is left", x.year(9999, 3, 1), 4);
    String before = state(x);
    int[][] refused = {{-1, 1, 0}, {10000, 1, 0}, {0, 0, 0}, {0, 100, 0}, {0, 1, -1}, {0, 1, 3}, {MOST, LEAST, MOST}};
    for (int[] r : refused) {
      due(24, "year(" + r[0] + ", " + r[1] + ", " + r[2] + ")", x.year(r[0], r[1], r[2]), OUTSIDE);
    }
    unchanged(24, "year", before, x);
  }

  private static void images() {
    BathBaskets x = evening("=J");
    x.basket(3, 4, 5);
    x.done();
    x.attendant(6, 7, 8);
    x.clock(9, 10);
    x.found(11, 1);
    String kept = state(x);
    due(25, "kept", x.image(0), 1);
    unchanged(25, "keeping", kept, x);
    x.basket(3, 1, 1);
    x.right();
    x.attendant(0, 0, 0);
    x.clock(1, 2);
    x.found(12, 2);
    String other = state(x);
    due(25, "kept, the other one", x.image(1), 1);
    due(26, "restored", x.restore(0), 1);
    unchanged(26, "restoring 0", kept, x);
    due(26, "restored, the other one", x.restore(1), 1);
    unchanged(26, "restoring 1", other, x);
    x.forget();
    x.found(1, 7);
    x.restore(0);
    unchanged(26, "restoring 0 again", kept, x);
    told(x, "B?");
    x.restore(1);
    due(26, "the pad stays", x.told(0), 2);
    due(26, "the pad stays", x.fault(), NONE);
    x.image(0);
    x.wipe();
    x.restore(0);
    due(25, "the pad is not kept", x.told(0), 0);
    unchanged(26, "kept over the first", other, x);
    for (int k : new int[] {-1, 2, LEAST, MOST}) {
      due(25, "image(" + k + ")", x.image(k), OUTSIDE);
      due(26, "restore(" + k + ")", x.restore(k), OUTSIDE);
    }
    unchanged(26, "refusals", other, x);
    BathBaskets one = new BathBaskets();
    one.image(1);
    due(26, "only 1 was kept", one.restore(0), STATE);
    due(26, "only 1 was kept", one.restore(1), 1);
  }

  private static void told() {
    BathBaskets x = evening("=BA");
    due(27, "signs", x.told(0), 3);
    x.wipe();
    told(x, "=B").done();
    for (int i = 0; i < 10; i++) {
      x.basket(i, 20 + i, 1 + i % 9);
    }
    x.attendant(4, 5, 6);
    x.clock(7, 8);
    x.found(1, 2);
    x.found(1, 2);
    x.say('x');
    int[] plain = {1, 4, 5, 6, 7, 8, 2};
    for (int what = 0; what <= 6; what++) {
      due(27, "told(" + what + ")", x.told(what), plain[what]);
    }
    for (int i = 0; i < 10; i++) {
      due(27, "told(" + (10 + i) + ")", x.told(10 + i), i < 2 ? 1 - i : i);
      due(27, "things of " + i, x.told(100 + 10 * i), 20 + i);
      due(27, "minutes of " + i, x.told(101 + 10 * i), 1 + i % 9);
      for (int rest = 2; rest < 10; rest++) {
        due(27, "told(" + (100 + 10 * i + rest) + ")", x.told(100 + 10 * i + rest), OUTSIDE);
      }
    }
    for (int what : new int[] {-1, 7, 8, 9, 20, 21, 90, 91, 99, 200, 201, 1000, -10, -100, LEAST, MOST}) {
      due(27, "told(" + what + ")", x.told(what), OUTSIDE);
    }
  }

  public static void main(String[] args) {
    newObject();
    basket();
    right();
    clock();
    attendant();
    say();
    wipe();
    fault();
    judge();
    behind();
    his();
    wrong();
    done();
    round();
    show();
    owners();
    towels();
    found();
    forget();
    fits();
    ask();
    piles();
    lengths();
    year();
    images();
    told();
    System.out.println(wrong == 0 ? "all answers are as due" : wrong + " answers are not as due");
    if (wrong != 0) {
      System.exit(1);
    }
  }
}
