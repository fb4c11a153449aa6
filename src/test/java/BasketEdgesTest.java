/** The document's first part, promises 1 to 8: its sentences that name an edge, one by one. */
public final class BasketEdgesTest {
  private static final String BEGINS = "ABCDEFGHIJ?.", OPENS = "+-=", LETTERS = "ABCDEFGHIJ", DIGITS = "01234567";

  // ---- 1 a new object

  private static void newObject() {
    Edges.says(1, "All BASKETS in their CABINS, empty; he is at CABIN 0.");
    BathBaskets x = new BathBaskets();
    for (int i = 0; i <= 9; i++) {
      Edges.due("the basket in cabin " + i, x.told(10 + i), i);
      Edges.due("things in basket " + i, x.told(100 + 10 * i), 0);
    }
    Edges.due("where he is", x.told(1), 0);

    Edges.says(1, "wants 1 to 9 minutes (3 at first)");
    for (int i = 0; i <= 9; i++) {
      Edges.due("minutes of basket " + i, x.told(101 + 10 * i), 3);
    }

    Edges.says(1, "HAS some THINGS (none at first), has SEEN some (none at first)");
    Edges.due("has", x.told(2), 0);
    Edges.due("seen", x.told(3), 0);

    Edges.says(1, "The CLOCK is 0 to 99 (0 at first), the BELL is, too (60 at first).");
    Edges.due("clock", x.told(4), 0);
    Edges.due("bell", x.told(5), 60);
    nothingYet();
  }

  /** What is asked or taken away where nothing is yet. */
  private static void nothingYet() {
    Edges.says(1, "A new object");
    BathBaskets x = new BathBaskets();
    Edges.due("signs", x.told(0), 0);
    Edges.due("notes", x.told(6), 0);
    Edges.due("wipe()", x.wipe(), 0);
    Edges.due("forget()", x.forget(), 0);
    Edges.due("right()", x.right(), 0);
    Edges.due("fault()", x.fault(), Edges.NONE);
    Edges.due("done()", x.done(), 0);
    Edges.due("restore(0)", x.restore(0), Edges.STATE);
    Edges.due("restore(1)", x.restore(1), Edges.STATE);
    Edges.same("an object beside another", besideAnother(), new BathBaskets());
  }

  private static BathBaskets besideAnother() {
    BathBaskets x = new BathBaskets();
    Edges.fullStand();
    return x;
  }

  // ---- 2 basket

  private static void basket() {
    Edges.says(2, "a BASKET (0 to 9; at first that of its own number)");
    BathBaskets x = new BathBaskets();
    Edges.due("basket(0, 1, 2)", x.basket(0, 1, 2), 3);
    Edges.due("basket(9, 3, 4)", x.basket(9, 3, 4), 3);
    Edges.due("things of 0", x.told(100), 1);
    Edges.due("minutes of 0", x.told(101), 2);
    Edges.due("things of 9", x.told(190), 3);
    Edges.due("minutes of 9", x.told(191), 4);
    for (int b = 1; b <= 8; b++) {
      Edges.due("things of " + b, x.told(100 + 10 * b), 0);
      Edges.due("minutes of " + b, x.told(101 + 10 * b), 3);
    }

    Edges.says(2, "A BASKET has some of the THINGS 0 to 7 in it");
    Edges.due("none", x.basket(5, 0, 3), 3);
    Edges.due("thing 0 alone", x.basket(5, 1, 3), 3);
    Edges.due("thing 7 alone", x.basket(5, 128, 3), 13);
    Edges.due("all", x.basket(5, 255, 3), 1283);
    Edges.due("things", x.told(150), 255);

    Edges.says(2, "wants 1 to 9 minutes");
    Edges.due("the fewest", x.basket(6, 0, 1), 3);
    Edges.due("minutes", x.told(161), 1);
    Edges.due("the most", x.basket(6, 0, 9), 1);
    Edges.due("minutes", x.told(161), 9);

    Edges.says(2, "10 times the THINGS that were in it, and the minutes it wanted");
    Edges.due("the most of both is put", x.basket(7, 255, 9), 3);
    Edges.due("the most of both was", x.basket(7, 0, 1), 2559);
    Edges.due("the least of both was", x.basket(7, 0, 1), 1);

    Edges.says(2, "THINGS in a BASKET (bits)");
    BathBaskets changed = Edges.evening("=J");
    changed.done();
    changed.basket(0, 77, 7);
    Edges.due("basket 0 is meant, wherever it stands", changed.told(100), 77);
    Edges.due("cabin 0 has another one", changed.behind(0, 1), 0);
    Edges.due("cabin 9 has it", changed.behind(9, 1), 77);

    Edges.says(2, "UNKNOWN; OUTSIDE.");
    Edges.refusesBeyond("basket", (y, a) -> y.basket(a[0], a[1], a[2]), Edges.cabin(), Edges.set(), Edges.number(1, 9));
  }

  // ---- 3 right

  private static void right() {
    Edges.says(3, "how many CABINS had another one");
    Edges.due("none", new BathBaskets().right(), 0);
    BathBaskets two = Edges.evening("=J");
    two.done();
    Edges.due("two, the fewest", two.right(), 2);
    BathBaskets all = Edges.evening("=BC=DE=FG=HI=J");
    Edges.due("acts", all.done(), 9);
    Edges.due("all ten", all.right(), 10);

    Edges.says(3, "All BASKETS are in their CABINS again");
    for (int i = 0; i <= 9; i++) {
      Edges.due("cabin " + i, all.told(10 + i), i);
    }
    Edges.due("none any more", all.right(), 0);
    Edges.due("nor had any behind them", all.wrong(0), 0);
    Edges.due("he is where he was", all.told(1), 8);
    Edges.due("the clock", all.told(4), 8);

    Edges.says(3, "right");
    BathBaskets x = Edges.fullStand();
    x.right();
    BathBaskets other = Edges.fullStand();
    for (int i = 1; i <= 8; i++) {
      Edges.due("cabin " + i, x.told(10 + i), other.told(10 + i));
    }
    for (int what : new int[] {0, 1, 2, 3, 4, 5, 6, 100, 101, 190, 191}) {
      Edges.due("told(" + what + ") is as it was", x.told(what), other.told(what));
    }
    Edges.due("the image is as it was kept", x.restore(0), 1);
    Edges.due("the image is as it was kept", x.told(10), 9);
  }

  // ---- 4 clock

  private static void clock() {
    Edges.says(4, "The CLOCK is 0 to 99 (0 at first), the BELL is, too (60 at first).");
    BathBaskets x = new BathBaskets();
    Edges.due("as it was at first", x.clock(0, 0), 60);
    Edges.due("both the least", x.clock(99, 99), 0);
    Edges.due("clock", x.told(4), 99);
    Edges.due("bell", x.told(5), 99);
    Edges.due("both the most", x.clock(99, 0), 9999);

    Edges.says(4, "100 times the one and the other, as they were");
    Edges.due("a clock above the bell", x.clock(0, 99), 9900);
    Edges.due("a bell above the clock", x.clock(1, 2), 99);
    Edges.due("clock", x.told(4), 1);
    Edges.due("bell", x.told(5), 2);

    Edges.says(4, "OUTSIDE.");
    Edges.refusesBeyond("clock", (y, a) -> y.clock(a[0], a[1]), Edges.number(0, 99), Edges.number(0, 99));
  }

  // ---- 5 attendant

  private static void attendant() {
    Edges.says(5, "Where he is, what he HAS, has SEEN: where he was.");
    BathBaskets x = new BathBaskets();
    Edges.due("at 0", x.attendant(9, 255, 0), 0);
    Edges.due("cabin", x.told(1), 9);
    Edges.due("has all", x.told(2), 255);
    Edges.due("has seen none", x.told(3), 0);
    Edges.due("at 9", x.attendant(0, 0, 255), 9);
    Edges.due("cabin", x.told(1), 0);
    Edges.due("has none", x.told(2), 0);
    Edges.due("has seen all", x.told(3), 255);
    Edges.due("again at 0", x.attendant(0, 128, 1), 0);
    Edges.due("the clock does not go by it", x.told(4), 0);

    Edges.says(5, "UNKNOWN: the CABIN; OUTSIDE.");
    Edges.refusesBeyond("attendant", (y, a) -> y.attendant(a[0], a[1], a[2]), Edges.cabin(), Edges.set(), Edges.set());
  }

  // ---- 6 say

  private static void say() {
    Edges.says(6, "signs (codes 33 to 126)");
    Edges.due("the first", new BathBaskets().say(33), 1);
    Edges.due("the last", new BathBaskets().say(126), 1);
    BathBaskets x = new BathBaskets();
    for (int sign = 33; sign <= 92; sign++) {
      Edges.due("say(" + sign + ")", x.say(sign), sign - 32);
    }
    BathBaskets y = new BathBaskets();
    for (int sign = 93; sign <= 126; sign++) {
      Edges.due("say(" + sign + ")", y.say(sign), sign - 92);
    }

    Edges.says(6, "a PAD of up to 60 signs");
    BathBaskets full = Edges.evening(".".repeat(59));
    Edges.due("59 are there", full.told(0), 59);
    Edges.due("the 60th", full.say('.'), 60);
    Edges.due("a 61st", full.say('.'), Edges.FULL);
    Edges.due("a 61st that can not stand there", full.say('x'), Edges.FULL);
    Edges.due("60 are there", full.told(0), 60);
    Edges.due("without a fault", full.fault(), Edges.NONE);
    Edges.refused(Edges::fullStand, "say", (z, a) -> z.say(a[0]), Edges.FULL, 33);
    Edges.refused(Edges::fullStand, "say", (z, a) -> z.say(a[0]), Edges.FULL, 'A');
    Edges.refused(Edges::fullStand, "say", (z, a) -> z.say(a[0]), Edges.FULL, 126);
    full.wipe();
    Edges.due("room again", full.say('.'), 1);

    Edges.says(6, "OUTSIDE; FULL.");
    Edges.refusesBeyond("say", (z, a) -> z.say(a[0]), Edges.number(33, 126));
    Edges.refused(Edges::fullStand, "say", (z, a) -> z.say(a[0]), Edges.OUTSIDE, 32);
    Edges.refused(Edges::fullStand, "say", (z, a) -> z.say(a[0]), Edges.OUTSIDE, 127);
    for (int sign : new int[] {0, -33, 65 + 256, 65 - 256, 65 + 65536}) {
      Edges.refused(BathBaskets::new, "say", (z, a) -> z.say(a[0]), Edges.OUTSIDE, sign);
    }
  }

  // ---- 7 wipe

  private static void wipe() {
    Edges.says(7, "Signs go: how many there were.");
    BathBaskets x = new BathBaskets();
    Edges.due("none", x.wipe(), 0);
    x.say('x');
    Edges.due("one", x.wipe(), 1);
    Edges.due("none again", x.wipe(), 0);
    BathBaskets full = Edges.fullStand();
    Edges.due("all 60", full.wipe(), 60);
    Edges.due("signs", full.told(0), 0);
    Edges.due("no fault", full.fault(), Edges.NONE);
    Edges.due("no acts", full.done(), 0);
    Edges.same("wiped and said again", saidAgain(), Edges.fullStand());
    Edges.same("an empty pad wiped", wiped(new BathBaskets()), new BathBaskets());
  }

  private static BathBaskets saidAgain() {
    BathBaskets x = Edges.fullStand();
    x.wipe();
    return Edges.say(x, "?B?+1-0=C." + ".".repeat(50));
  }

  private static BathBaskets wiped(BathBaskets x) {
    x.wipe();
    return x;
  }

  // ---- 8 fault

  private static int faultOf(String signs) {
    return Edges.evening(signs).fault();
  }

  private static boolean in(String signs, int sign) {
    return signs.indexOf(sign) >= 0;
  }

  private static void fault() {
    Edges.says(8, "an empty PAD has no FAULT: no ACTS");
    Edges.due("a new object", faultOf(""), Edges.NONE);
    Edges.due("no acts", new BathBaskets().done(), 0);
    Edges.due("wiped", wiped(Edges.evening("x")).fault(), Edges.NONE);
    BathBaskets done = Edges.evening("B");
    done.done();
    Edges.due("done", done.fault(), Edges.NONE);

    Edges.says(8, "the place (from 0 on) of the first sign that can not stand there");
    for (int sign = 33; sign <= 126; sign++) {
      String s = String.valueOf((char) sign);
      boolean stands = in(BEGINS + OPENS, sign);
      if (!in(OPENS, sign)) {
        Edges.due("fault of " + s, faultOf(s), stands ? Edges.NONE : 0);
        Edges.due("fault of ." + s, faultOf("." + s), stands ? Edges.NONE : 1);
        Edges.due("fault of +0" + s, faultOf("+0" + s), stands ? Edges.NONE : 2);
        Edges.due("fault of -7" + s, faultOf("-7" + s), stands ? Edges.NONE : 2);
        Edges.due("fault of =J" + s, faultOf("=J" + s), stands ? Edges.NONE : 2);
      }
      Edges.due("fault of +" + s, faultOf("+" + s), in(DIGITS, sign) ? Edges.NONE : 1);
      Edges.due("fault of -" + s, faultOf("-" + s), in(DIGITS, sign) ? Edges.NONE : 1);
      Edges.due("fault of =" + s, faultOf("=" + s), in(LETTERS, sign) ? Edges.NONE : 1);
    }
    Edges.due("the first, then more that can not", faultOf("Bxy+9"), 1);
    Edges.due("the first, then all that can", faultOf("xB?+0"), 0);
    Edges.due("the first, and more must come", faultOf("B+8="), 2);
    Edges.due("the last of 60", faultOf(".".repeat(59) + "x"), 59);
    Edges.due("the last of 60 as a second sign", faultOf(".".repeat(58) + "+8"), 59);

    Edges.says(8, "or the number of signs, if more must come");
    for (String open : new String[] {"+", "-", "="}) {
      Edges.due("fault of " + open, faultOf(open), 1);
      Edges.due("fault of A" + open, faultOf("A" + open), 2);
      Edges.due("fault of +0" + open, faultOf("+0" + open), 3);
      Edges.due("of 59 signs", faultOf(".".repeat(58) + open), 59);
      Edges.due("of 60 signs", faultOf(".".repeat(59) + open), 60);
    }
    Edges.due("of 60 signs, two for each act", faultOf("=B".repeat(30)), Edges.NONE);
    Edges.due("of 60 signs, an act cut off", faultOf("." + "+0".repeat(29) + "-"), 60);

    faultAsItIsSaid();
  }

  private static void faultAsItIsSaid() {
    Edges.says(8, "a sign that is said changes what fault() tells");
    BathBaskets x = new BathBaskets();
    int[][] said = {{'.', Edges.NONE}, {'+', 2}, {'7', Edges.NONE}, {'=', 4}, {'J', Edges.NONE}, {'8', 5}, {'A', 5}};
    for (int[] s : said) {
      x.say(s[0]);
      Edges.due("fault behind " + (char) s[0], x.fault(), s[1]);
    }
    BathBaskets open = Edges.evening("+");
    open.say(32);
    Edges.due("a refused sign does not", open.fault(), 1);
    BathBaskets full = Edges.evening(".".repeat(60));
    full.say('x');
    Edges.due("nor does one that is too many", full.fault(), Edges.NONE);

    Edges.says(8, "THE FAULT; NONE.");
    Edges.due("acts that can not be are no fault", faultOf("A"), Edges.NONE);
    Edges.due("acts that can not be are no fault", faultOf("+0-0=AJ"), Edges.NONE);
    Edges.changesNothing("fault", (y, a) -> y.fault());
  }

  public static void main(String[] args) {
    newObject();
    basket();
    right();
    clock();
    attendant();
    say();
    wipe();
    fault();
    Edges.end();
  }
}
