/** The document's fourth part, promises 18 to 27: its sentences that name an edge, one by one. */
public final class FoundEdgesTest {

  // ---- 18 found

  private static BathBaskets noted(int... daysAndThings) {
    BathBaskets x = new BathBaskets();
    for (int i = 0; i < daysAndThings.length; i += 2) {
      x.found(daysAndThings[i], daysAndThings[i + 1]);
    }
    return x;
  }

  private static void found() {
    Edges.says(18, "on day i (0 to 60) THING a times i and b, left over by 8, was found");
    Edges.due("the first day, the first thing", new BathBaskets().found(0, 0), 1);
    Edges.due("the first day, the last thing", new BathBaskets().found(0, 7), 1);
    Edges.due("the last day, the first thing", new BathBaskets().found(60, 0), 1);
    Edges.due("the last day, the last thing", new BathBaskets().found(60, 7), 1);

    Edges.says(18, "NOTES, 8 at most: on a day a THING was found.");
    BathBaskets x = new BathBaskets();
    for (int i = 1; i <= 8; i++) {
      Edges.due("note " + i + ", the same again", x.found(60, 7), i);
      Edges.due("notes", x.told(6), i);
    }
    Edges.due("a ninth", x.found(60, 7), Edges.FULL);
    Edges.due("a ninth, another one", x.found(0, 0), Edges.FULL);
    Edges.due("notes", x.told(6), 8);
    Edges.due("what fits, by eight", x.fits(-1), 8);
    x.forget();
    Edges.due("room again", x.found(0, 0), 1);
    BathBaskets eighth = noted(0, 0, 1, 0, 2, 0, 3, 0, 4, 0, 5, 0, 6, 0);
    Edges.due("what fits, by seven", eighth.fits(-1), 1);
    eighth.found(60, 1);
    Edges.due("the eighth counts, too", eighth.fits(-1), 0);

    Edges.says(18, "UNKNOWN: the THING; OUTSIDE: the day; FULL.");
    Edges.Call call = (y, a) -> y.found(a[0], a[1]);
    Edges.refusesBeyond("found", call, Edges.number(0, 60), Edges.thing());
    for (int day = 0; day <= 60; day += 60) {
      for (int thing = 0; thing <= 7; thing += 7) {
        Edges.refused(Edges::fullStand, "found", call, Edges.FULL, day, thing);
      }
    }
  }

  // ---- 19 forget

  private static void forget() {
    Edges.says(19, "NOTES go: how many there were.");
    BathBaskets x = new BathBaskets();
    Edges.due("none", x.forget(), 0);
    x.found(0, 0);
    Edges.due("one", x.forget(), 1);
    Edges.due("none again", x.forget(), 0);
    BathBaskets full = Edges.fullStand();
    Edges.due("all eight", full.forget(), 8);
    Edges.due("notes", full.told(6), 0);
    Edges.due("all laws fit", full.fits(-1), 64);
    Edges.due("signs stay", full.told(0), 60);
    full.restore(1);
    Edges.due("an image keeps its own", full.told(6), 2);
    BathBaskets none = new BathBaskets();
    none.forget();
    Edges.same("none forgotten", none, new BathBaskets());
  }

  // ---- 20 fits

  private static void fits() {
    Edges.says(20, "FITS: how many (i = -1), the i-th; NONE (i below -1, too).");
    BathBaskets x = new BathBaskets();
    Edges.due("no notes: all", x.fits(-1), 64);
    for (int i = 0; i <= 63; i++) {
      Edges.due("no notes: fits(" + i + ")", x.fits(i), 10 * (i / 8) + i % 8);
    }
    for (int i : new int[] {64, 65, 77, 78, -2, -3, -64, Edges.LEAST, Edges.LEAST + 1, Edges.MOST}) {
      Edges.due("no notes: fits(" + i + ")", x.fits(i), Edges.NONE);
    }
    BathBaskets one = noted(0, 3, 1, 2);
    Edges.due("one law: how many", one.fits(-1), 1);
    Edges.due("one law: it", one.fits(0), 73);
    Edges.due("one law: no second", one.fits(1), Edges.NONE);
    Edges.due("one law: i below -1", one.fits(-2), Edges.NONE);
    BathBaskets none = noted(0, 3, 8, 4);
    Edges.due("no law: how many", none.fits(-1), 0);
    for (int i : new int[] {0, 1, -2, Edges.LEAST, Edges.MOST}) {
      Edges.due("no law: fits(" + i + ")", none.fits(i), Edges.NONE);
    }

    Edges.says(20, "10 times a, and b, by which all NOTES are so: how many; the i-th (rising)");
    int[] laws = {3, 17, 23, 37, 43, 57, 63, 77};
    BathBaskets last = noted(60, 3);
    Edges.due("day 60: how many", last.fits(-1), 8);
    for (int i = 0; i <= 7; i++) {
      Edges.due("day 60: fits(" + i + ")", last.fits(i), laws[i]);
      Edges.due("day 0: fits(" + i + ")", noted(0, 7).fits(i), 10 * i + 7);
    }
    Edges.due("no ninth", last.fits(8), Edges.NONE);
    Edges.due("the same at day 4", noted(4, 3, 60, 3).fits(-1), 8);
    Edges.due("7 and 7 at day 1: left over by 8", noted(0, 7, 1, 6).fits(0), 77);
    for (int i : new int[] {-2, -1, 0, 63, 64, Edges.LEAST, Edges.MOST}) {
      Edges.changesNothing("fits", (y, a) -> y.fits(a[0]), i);
    }
  }

  // ---- 21 ask

  private static void askIs(String what, BathBaskets x, int day, int left) {
    Edges.due(what + ": the day", x.ask(0), day);
    Edges.due(what + ": how many", x.ask(1), left);
  }

  private static void ask() {
    Edges.says(21, "the day to ask about next, so that, whatever was found, fewest of these are left at the most");
    askIs("no notes", new BathBaskets(), 0, 8);
    askIs("day 0 is noted", noted(0, 7), 1, 1);
    askIs("day 1 is noted", noted(1, 7), 0, 1);
    askIs("day 60 is noted", noted(60, 3), 1, 1);
    askIs("day 59 is noted", noted(59, 3), 0, 1);
    askIs("days 0 and 4 are noted", noted(0, 3, 4, 3), 1, 1);
    askIs("one law fits", noted(0, 3, 1, 2), 0, 1);
    askIs("one law fits, by eight notes", noted(0, 0, 1, 0, 2, 0, 3, 0, 4, 0, 5, 0, 6, 0, 60, 0), 0, 1);

    Edges.says(21, "NONE: nothing fits. OUTSIDE.");
    askIs("two notes of a day", noted(0, 3, 0, 4), Edges.NONE, Edges.NONE);
    askIs("eight days on", noted(60, 3, 52, 4), Edges.NONE, Edges.NONE);
    Edges.Call call = (y, a) -> y.ask(a[0]);
    Edges.refusesBeyond("ask", call, Edges.number(0, 1));
    Edges.refused(() -> noted(0, 3, 0, 4), "ask", call, Edges.OUTSIDE, -1);
    Edges.refused(() -> noted(0, 3, 0, 4), "ask", call, Edges.OUTSIDE, 2);
    Edges.changesNothing("ask", call, 0);
    Edges.changesNothing("ask", call, 1);
    BathBaskets again = noted(0, 3, 0, 4);
    again.ask(0);
    again.forget();
    askIs("behind a time when nothing fitted", again, 0, 8);
  }

  // ---- 22 piles

  private static void pilesAre(int a, int b, int take) {
    BathBaskets x = new BathBaskets();
    Edges.due(Edges.show("piles", a, b, 0), x.piles(a, b, 0), take == Edges.NONE ? 0 : 1);
    Edges.due(Edges.show("piles", a, b, 1), x.piles(a, b, 1), take);
  }

  private static void piles() {
    Edges.says(22, "two piles of a, b towels (0 to 20 each)");
    pilesAre(0, 20, 20);
    pilesAre(20, 0, 2000);
    pilesAre(20, 20, 8);
    pilesAre(20, 1, 1800);
    pilesAre(1, 20, 18);
    pilesAre(19, 20, 700);
    pilesAre(20, 19, 7);

    Edges.says(22, "who takes the last has won; who can not has lost");
    pilesAre(0, 0, Edges.NONE);
    pilesAre(0, 1, 1);
    pilesAre(1, 0, 100);
    pilesAre(1, 1, 101);

    Edges.says(22, "take 1 or more from one, or as many from each of both");
    int[][] lost = {{1, 2}, {3, 5}, {4, 7}, {6, 10}, {8, 13}, {9, 15}, {11, 18}, {12, 20}};
    for (int[] l : lost) {
      pilesAre(l[0], l[1], Edges.NONE);
      pilesAre(l[1], l[0], Edges.NONE);
    }
    pilesAre(12, 19, 101);
    pilesAre(19, 12, 101);
    pilesAre(2, 3, 2);

    Edges.says(22, "100 times from the first and from the second (the least; NONE)");
    pilesAre(2, 2, 1);
    pilesAre(3, 3, 303);
    pilesAre(5, 5, 2);
    pilesAre(14, 14, 1414);

    Edges.says(22, "OUTSIDE.");
    Edges.Call call = (y, a) -> y.piles(a[0], a[1], a[2]);
    Edges.refusesBeyond("piles", call, Edges.number(0, 20), Edges.number(0, 20), Edges.number(0, 1));
    Edges.changesNothing("piles", call, 0, 0, 1);
    Edges.changesNothing("piles", call, 20, 20, 1);
  }

  // ---- 23 lengths

  private static void lengthsAre(int k, int n, int t, int what, long upper, long lower) {
    BathBaskets x = new BathBaskets();
    Edges.due(Edges.show("lengths", k, n, t, what, 0), x.lengths(k, n, t, what, 0), upper);
    Edges.due(Edges.show("lengths", k, n, t, what, 1), x.lengths(k, n, t, what, 1), lower);
  }

  private static void lengths() {
    Edges.says(23, "somebody wants to swim k (0 to 12) lengths");
    lengthsAre(0, 12, 5, 0, 1, 1);
    lengthsAre(0, 12, 0, 0, 1, 1);
    lengthsAre(0, 0, 0, 0, 1, 1);
    lengthsAre(1, 12, 5, 0, 4095, 4096);
    lengthsAre(12, 12, 5, 0, 1, 4096);

    Edges.says(23, "each of n (0 to 12) minutes it is one");
    lengthsAre(1, 0, 10, 0, 0, 1);
    lengthsAre(12, 0, 10, 0, 0, 1);
    lengthsAre(12, 11, 10, 0, 0, 1);
    lengthsAre(12, 12, 10, 0, 1, 1);
    lengthsAre(11, 11, 10, 0, 1, 1);

    Edges.says(23, "with t tenths (0 to 10), by itself");
    lengthsAre(1, 1, 0, 0, 0, 1);
    lengthsAre(1, 1, 1, 0, 1, 10);
    lengthsAre(1, 1, 9, 0, 9, 10);
    lengthsAre(1, 1, 10, 0, 1, 1);
    lengthsAre(12, 12, 1, 0, 1, 1000000000000L);
    lengthsAre(1, 12, 1, 0, 717570463519L, 1000000000000L);

    Edges.says(23, "how many in the mean (k at the most)");
    lengthsAre(0, 12, 10, 1, 0, 1);
    lengthsAre(12, 0, 10, 1, 0, 1);
    lengthsAre(12, 12, 0, 1, 0, 1);
    lengthsAre(1, 12, 10, 1, 1, 1);
    lengthsAre(12, 12, 10, 1, 12, 1);
    lengthsAre(12, 11, 10, 1, 11, 1);
    lengthsAre(12, 12, 5, 1, 6, 1);
    lengthsAre(11, 12, 5, 1, 24575, 4096);
    lengthsAre(1, 12, 1, 1, 717570463519L, 1000000000000L);

    Edges.says(23, "Fractions are told in lowest terms by part: 0 the upper, 1 the lower number");
    lengthsAre(1, 1, 2, 0, 1, 5);
    lengthsAre(1, 1, 5, 0, 1, 2);
    lengthsAre(12, 12, 2, 0, 1, 244140625);
    lengthsAre(12, 12, 1, 1, 6, 5);

    Edges.says(23, "refused with GONE and the refusal");
    BathBaskets x = new BathBaskets();
    Edges.due("lengths(13, 0, 0, 0, 0)", x.lengths(13, 0, 0, 0, 0), -1000000000000000002L);
    Edges.due("GONE", BathBaskets.GONE, -1000000000000000000L);

    Edges.says(23, "OUTSIDE.");
    Edges.Call call = (y, a) -> y.lengths(a[0], a[1], a[2], a[3], a[4]);
    Edges.refusesBeyond("lengths", Edges.GONE, call, Edges.number(0, 12), Edges.number(0, 12), Edges.number(0, 10),
        Edges.number(0, 1), Edges.number(0, 1));
    Edges.changesNothing("lengths", call, 0, 0, 0, 0, 0);
    Edges.changesNothing("lengths", call, 12, 12, 10, 1, 1);
  }

  // ---- 24 year

  private static void yearIs(String what, BathBaskets x, int seed, int m, int[] due) {
    for (int i = 0; i <= 2; i++) {
      Edges.due(what + ": " + Edges.show("year", seed, m, i), x.year(seed, m, i), due[i]);
    }
  }

  private static int[] all(int clock, int things, int cabins) {
    return new int[] {clock, things, cabins};
  }

  private static BathBaskets from(int cabin, int has, int seen, int now, int inFirst) {
    BathBaskets x = new BathBaskets();
    x.attendant(cabin, has, seen);
    x.clock(now, 60);
    x.basket(0, inFirst, 3);
    return x;
  }

  private static void year() {
    // first draws: seed 0: 74 = 9 by 8, 2; 1: 149 = 18, 5; 2: 224 = 28, 0; 3: 299 = 37, 3; 4: 374 = 46, 6;
    // 5: 449 = 56, 1; 7: 599 = 74, 7
    Edges.says(24, "0, 1 he goes to CABIN y left over by 10");
    yearIs("0", from(0, 0, 0, 0, 0), 2, 1, all(8, 0, 0));
    yearIs("0, he is there", from(8, 0, 0, 0, 0), 2, 1, all(0, 0, 0));
    yearIs("0, by the bell", from(0, 0, 0, 52, 0), 2, 1, all(60, 0, 0));
    yearIs("0, too late", from(0, 0, 0, 53, 0), 2, 1, all(53, 0, 0));
    yearIs("1", from(9, 0, 0, 0, 0), 5, 1, all(3, 0, 0));

    Edges.says(24, "2, 3 he goes through the BASKET");
    yearIs("2", from(0, 0, 128, 0, 3), 0, 1, all(3, 3, 0));
    yearIs("2, by the bell", from(0, 0, 0, 57, 3), 0, 1, all(60, 2, 0));
    yearIs("2, too late", from(0, 0, 0, 58, 3), 0, 1, all(58, 0, 0));
    yearIs("3", from(0, 0, 0, 0, 255), 3, 1, all(3, 8, 0));

    // seed 38: 2924 = 365 by 8, 4: thing 5; 22763 = 2845, 3
    Edges.says(24, "4 he lays THING y left over by 8 into it");
    yearIs("4, and goes through it", from(0, 32, 0, 0, 0), 38, 2, all(3, 1, 0));
    yearIs("4, he has it not", from(0, 223, 0, 0, 0), 38, 2, all(3, 0, 0));
    yearIs("4, laid is not seen", from(0, 32, 0, 0, 0), 38, 1, all(0, 0, 0));

    Edges.says(24, "5 he takes that out");
    yearIs("5", from(0, 0, 0, 0, 4), 1, 1, all(0, 1, 0));
    yearIs("5, he has it", from(0, 4, 0, 0, 4), 1, 1, all(0, 0, 0));
    yearIs("5, it is not in it", from(0, 0, 0, 0, 251), 1, 1, all(0, 0, 0));

    Edges.says(24, "6 it is changed with that of CABIN y left over by 10");
    yearIs("6", from(0, 0, 0, 60, 0), 4, 1, all(60, 0, 2));
    yearIs("6, he is there", from(6, 0, 0, 60, 0), 4, 1, all(60, 0, 0));

    Edges.says(24, "7 a minute; each if that can be");
    yearIs("7", from(0, 0, 0, 59, 0), 7, 1, all(60, 0, 0));
    yearIs("7, at the bell", from(0, 0, 0, 60, 0), 7, 1, all(60, 0, 0));
    yearIs("7, behind it", from(0, 0, 0, 99, 0), 7, 1, all(99, 0, 0));
    BathBaskets late = from(0, 0, 0, 0, 0);
    late.clock(98, 99);
    yearIs("7, to 99", late, 7, 1, all(99, 0, 0));
    late.clock(99, 99);
    yearIs("7, at 99", late, 7, 1, all(99, 0, 0));

    yearOfSeeds();
    yearOfManyActs();
    yearFromAllAsItIs();
  }

  private static void yearOfSeeds() {
    // seed 872: 65474 = 8184 by 8, 2, still below 65537; seed 873: 65549, so 12 = 1 by 8, 4; then 974 = 121, 6
    Edges.says(24, "becomes (75 x and 74) left over by 65537");
    yearIs("the last without a turn", from(0, 0, 0, 0, 3), 872, 1, all(3, 2, 0));
    yearIs("the first with one", from(0, 0, 0, 0, 2), 873, 1, all(0, 0, 0));
    yearIs("the first with one", from(0, 0, 0, 0, 2), 873, 2, all(0, 0, 2));

    // seed 9999: 749999 less 11 times 65537 is 29092 = 3636 by 8, 4: thing 4; then 19253 = 2406, 5: thing 6
    Edges.says(24, "A YEAR by a seed (0 to 9999) of m ACTS (1 to 99)");
    yearIs("the least seed", from(0, 0, 0, 0, 1), 0, 1, all(3, 1, 0));
    yearIs("the greatest seed", from(0, 0, 0, 0, 80), 9999, 1, all(0, 0, 0));
    yearIs("the greatest seed", from(0, 0, 0, 0, 80), 9999, 2, all(0, 1, 0));
  }

  /** Behind the bell only changes can be, and he stays at cabin 0: these are drawn here beside the class. */
  private static void yearOfManyActs() {
    Edges.says(24, "A YEAR by a seed (0 to 9999) of m ACTS (1 to 99)");
    int lastCounts = 0;
    for (int seed = 0; seed <= 9999; seed += 99) {
      BathBaskets x = new BathBaskets();
      x.clock(99, 0);
      int before = 0;
      for (int m : new int[] {1, 2, 98, 99}) {
        int cabins = changed(seed, m);
        yearIs("only changes", x, seed, m, all(99, 0, cabins));
        lastCounts += m == 99 && cabins != before ? 1 : 0;
        before = cabins;
      }
    }
    Edges.due("the 99th act is seen by some seed", lastCounts > 0 ? 1 : 0, 1);
  }

  private static int changed(int seed, int m) {
    int[] at = {0, 1, 2, 3, 4, 5, 6, 7, 8, 9};
    long x = seed;
    for (int i = 0; i < m; i++) {
      x = (75 * x + 74) % 65537;
      if (x % 8 == 6) {
        int there = (int) (x / 8 % 10), basket = at[there];
        at[there] = at[0];
        at[0] = basket;
      }
    }
    int cabins = 0;
    for (int i = 0; i <= 9; i++) {
      cabins += at[i] == i ? 0 : 1;
    }
    return cabins;
  }

  private static void yearFromAllAsItIs() {
    Edges.says(24, "from all as it is");
    BathBaskets x = Edges.evening("=BC=DE=FG=HI=J");
    x.done();
    x.attendant(8, 0, 255);
    x.clock(60, 60);
    yearIs("nothing can be", x, 7, 1, all(60, 8, 10));
    Edges.say(x, "=A?x");
    yearIs("the pad does not count", x, 7, 1, all(60, 8, 10));

    Edges.says(24, "Nothing is DONE in fact.");
    Edges.Call call = (y, a) -> y.year(a[0], a[1], a[2]);
    for (int what = 0; what <= 2; what++) {
      Edges.changesNothing("year", call, 0, 99, what);
      Edges.changesNothing("year", call, 9999, 99, what);
      Edges.changesNothing("year", call, 4, 1, what);
    }

    Edges.says(24, "OUTSIDE.");
    Edges.refusesBeyond("year", call, Edges.number(0, 9999), Edges.number(1, 99), Edges.number(0, 2));
  }

  // ---- 25 image, 26 restore

  /** All but the pad is made another. */
  private static void upset(BathBaskets x) {
    x.wipe();
    Edges.say(x, "=J").done();
    for (int b = 0; b <= 9; b++) {
      x.basket(b, 200 + b, 8);
    }
    x.attendant(7, 99, 98);
    x.clock(97, 96);
    x.forget();
    x.found(33, 1);
  }

  private static void image() {
    Edges.says(25, "All but the PAD is kept in an IMAGE (0, 1): 1.");
    for (int k = 0; k <= 1; k++) {
      BathBaskets x = Edges.fullStand();
      Edges.due("image(" + k + ")", x.image(k), 1);
      upset(x);
      Edges.due("restore(" + k + ")", x.restore(k), 1);
      BathBaskets other = Edges.fullStand();
      other.image(k);
      other.wipe();
      Edges.same("all, from image " + k, x, other);
    }
    BathBaskets fresh = new BathBaskets();
    Edges.due("of a new object", fresh.image(0), 1);
    Edges.due("the same again", fresh.image(0), 1);
    upset(fresh);
    fresh.restore(0);
    BathBaskets other = new BathBaskets();
    other.image(0);
    Edges.same("all, as it was at first", fresh, other);
    BathBaskets twice = new BathBaskets();
    twice.image(1);
    twice.clock(1, 2);
    Edges.due("kept over another", twice.image(1), 1);
    twice.clock(3, 4);
    twice.restore(1);
    Edges.due("the later one stands", twice.clock(0, 0), 102);

    Edges.says(25, "OUTSIDE.");
    Edges.refusesBeyond("image", (y, a) -> y.image(a[0]), Edges.number(0, 1));
  }

  private static void restore() {
    Edges.says(26, "It is as it was when it was kept: 1.");
    BathBaskets x = new BathBaskets();
    x.clock(10, 11);
    x.image(0);
    x.clock(20, 21);
    x.image(1);
    x.clock(30, 31);
    Edges.due("restore(0)", x.restore(0), 1);
    Edges.due("the first", x.clock(40, 41), 1011);
    Edges.due("restore(0) again", x.restore(0), 1);
    Edges.due("it stays as it was kept", x.told(4), 10);
    Edges.due("restore(1)", x.restore(1), 1);
    Edges.due("the second", x.told(4), 20);
    for (String signs : new String[] {"", "B+", "A", ".".repeat(60)}) {
      BathBaskets said = Edges.evening(signs);
      said.image(0);
      said.wipe();
      Edges.due("the pad was not kept", said.restore(0), 1);
      Edges.due("the pad was not kept", said.told(0), 0);
      Edges.say(said, signs);
      int fault = said.fault();
      said.restore(0);
      Edges.due("the pad stays as it is", said.told(0), signs.length());
      Edges.due("the pad stays as it is", said.fault(), fault);
    }

    Edges.says(26, "OUTSIDE; STATE: it was not.");
    Edges.Call call = (y, a) -> y.restore(a[0]);
    Edges.refusesBeyond("restore", call, Edges.number(0, 1));
    for (int k = 0; k <= 1; k++) {
      int kept = k, other = 1 - k;
      Edges.refused(BathBaskets::new, "restore", call, Edges.STATE, k);
      Edges.refused(() -> upsetWithImage(kept), "restore", call, Edges.STATE, other);
      BathBaskets refused = new BathBaskets();
      refused.image(-1);
      refused.image(2);
      Edges.due("a refused image keeps nothing", refused.restore(k), Edges.STATE);
    }
  }

  private static BathBaskets upsetWithImage(int k) {
    BathBaskets x = new BathBaskets();
    x.image(k);
    upset(x);
    return Edges.say(x, "B?");
  }

  // ---- 27 told

  private static void told() {
    Edges.says(27, "0 signs, 1 where he is, 2 what he HAS, 3 has SEEN, 4 the CLOCK, 5 the BELL, 6 NOTES");
    int[] full = {60, 4, 6, 8, 5, 95, 8};
    for (int what = 0; what <= 6; what++) {
      Edges.due("told(" + what + ")", Edges.fullStand().told(what), full[what]);
    }
    BathBaskets most = new BathBaskets();
    most.attendant(9, 255, 254);
    most.clock(99, 98);
    int[] greatest = {0, 9, 255, 254, 99, 98, 0};
    for (int what = 0; what <= 6; what++) {
      Edges.due("the most, told(" + what + ")", most.told(what), greatest[what]);
    }

    Edges.says(27, "10 and a CABIN: which BASKET stands there");
    BathBaskets x = Edges.fullStand();
    for (int cabin = 0; cabin <= 9; cabin++) {
      Edges.due("told(" + (10 + cabin) + ")", x.told(10 + cabin), cabin % 9 == 0 ? 9 - cabin : cabin);
    }

    Edges.says(27, "100 and 10 times a BASKET and 0 THINGS (bits), 1 minutes");
    for (int b = 0; b <= 9; b++) {
      x.basket(b, 255 - b, b == 0 ? 9 : b);
      Edges.due("things of " + b, x.told(100 + 10 * b), 255 - b);
      Edges.due("minutes of " + b, x.told(101 + 10 * b), b == 0 ? 9 : b);
    }

    Edges.says(27, "OUTSIDE.");
    Edges.Call call = (y, a) -> y.told(a[0]);
    for (int what = -30; what <= 230; what++) {
      boolean isBasket = what >= 100 && what <= 191 && what % 10 <= 1;
      if (what < 0 || what > 6 && what < 10 || what > 19 && !isBasket) {
        Edges.refusedEverywhere("told", call, Edges.OUTSIDE, what);
      } else {
        Edges.changesNothing("told", call, what);
      }
    }
    int[] far = {Edges.LEAST, Edges.LEAST + 1, -100, -101, -110, -191, 1000, 1001, 1010, 1100, Edges.MOST - 1, Edges.MOST};
    for (int what : far) {
      Edges.refusedEverywhere("told", call, Edges.OUTSIDE, what);
    }
  }

  public static void main(String[] args) {
    found();
    forget();
    fits();
    ask();
    piles();
    lengths();
    year();
    image();
    restore();
    told();
    Edges.end();
  }
}
