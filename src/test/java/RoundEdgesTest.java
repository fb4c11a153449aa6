/** The document's third part, promises 14 to 17: its sentences that name an edge, one by one. */
public final class RoundEdgesTest {

  // ---- 14 round

  private static BathBaskets timed(int now, int bell) {
    BathBaskets x = new BathBaskets();
    x.clock(now, bell);
    return x;
  }

  private static BathBaskets slow(int now, int bell) {
    BathBaskets x = timed(now, bell);
    for (int b = 0; b <= 9; b++) {
      x.basket(b, 0, 9);
    }
    return x;
  }

  private static void roundIs(String what, BathBaskets x, int goal, int many, int cabins) {
    Edges.due(what + ": how many", x.round(goal, 0), many);
    Edges.due(what + ": cabins", x.round(goal, 1), cabins);
  }

  private static void round() {
    Edges.says(14, "the CLOCK being the BELL at the most");
    roundIs("48 minutes for all and back", timed(0, 48), 0, 10, 1023);
    roundIs("a minute less", timed(0, 47), 0, 9, 511);
    roundIs("a minute later", timed(1, 48), 0, 9, 511);
    roundIs("39 minutes for all and to the end", timed(0, 39), 9, 10, 1023);
    roundIs("a minute less", timed(0, 38), 9, 9, 511);
    roundIs("99 minutes for all that want nine", slow(0, 99), 9, 10, 1023);
    roundIs("a minute less", slow(0, 98), 9, 9, 511);
    roundIs("a minute later", slow(1, 99), 9, 9, 511);
    roundIs("three minutes for his own", timed(57, 60), 0, 1, 1);
    roundIs("a minute less", timed(58, 60), 0, 0, 0);

    Edges.says(14, "the most BASKETS");
    roundIs("none, at the bell", timed(60, 60), 0, 0, 0);
    roundIs("none, at 99", timed(99, 99), 0, 0, 0);
    roundIs("none, at 0", timed(0, 0), 0, 0, 0);
    roundIs("none, just there in time", timed(51, 60), 9, 0, 0);
    roundIs("all, with time over", timed(0, 99), 0, 10, 1023);

    Edges.says(14, "NONE: he can not come there in time");
    roundIs("a minute less", timed(52, 60), 9, Edges.NONE, Edges.NONE);
    roundIs("at the bell, the next cabin", timed(60, 60), 1, Edges.NONE, Edges.NONE);
    roundIs("at 99, the next cabin", timed(99, 99), 1, Edges.NONE, Edges.NONE);
    roundIs("behind the bell, where he is", timed(61, 60), 0, Edges.NONE, Edges.NONE);
    roundIs("far behind the bell, where he is", timed(99, 0), 0, Edges.NONE, Edges.NONE);

    Edges.says(14, "at which CABINS, least as bits of as many");
    BathBaskets x = timed(0, 4);
    x.attendant(5, 0, 0);
    roundIs("his own alone", x, 5, 1, 32);
    x.clock(0, 5);
    roundIs("his own, or a neighbour's", x, 5, 1, 16);
    x.clock(0, 8);
    roundIs("his own and a neighbour's", x, 5, 2, 48);
    x.attendant(9, 0, 0);
    x.clock(0, 3);
    roundIs("the last cabin's", x, 9, 1, 512);
    x.clock(0, 9);
    roundIs("the last two and back", x, 9, 2, 768);
    x.clock(0, 12);
    roundIs("two that are further off", x, 9, 2, 192);
    roundIs("from one end to the other", x, 0, 1, 1);

    betweenCabins();
    fromWhereHeIs();

    Edges.says(14, "UNKNOWN; OUTSIDE.");
    Edges.Call call = (y, a) -> y.round(a[0], a[1]);
    Edges.refusesBeyond("round", call, Edges.cabin(), Edges.number(0, 1));
    for (int cabin = 0; cabin <= 9; cabin += 9) {
      Edges.changesNothing("round", call, cabin, 0);
      Edges.changesNothing("round", call, cabin, 1);
    }
    BathBaskets late = timed(99, 0);
    Edges.due("no such cabin, too late", late.round(10, 0), Edges.UNKNOWN);
    Edges.due("nothing so told, too late", late.round(0, 2), Edges.OUTSIDE);
  }

  private static void betweenCabins() {
    Edges.says(14, "from where he is he goes through BASKETS, and to a told CABIN then");
    int[][] ways = {{3, 6}, {6, 3}};
    for (int[] way : ways) {
      BathBaskets x = timed(0, 2);
      x.attendant(way[0], 0, 0);
      roundIs("too late, from " + way[0], x, way[1], Edges.NONE, Edges.NONE);
      x.clock(0, 3);
      roundIs("just there, from " + way[0], x, way[1], 0, 0);
      x.clock(0, 6);
      roundIs("one by the way, from " + way[0], x, way[1], 1, 8);
      x.clock(0, 15);
      roundIs("all by the way, from " + way[0], x, way[1], 4, 120);
      x.clock(0, 20);
      roundIs("one off the way, from " + way[0], x, way[1], 5, 124);
      x.clock(0, 25);
      roundIs("two off the way, from " + way[0], x, way[1], 6, 126);
    }
    for (int start = 4; start <= 5; start++) {
      BathBaskets x = slow(0, 7);
      x.attendant(start, 0, 0);
      x.basket(3, 0, 1);
      x.basket(6, 0, 1);
      roundIs("on both sides, the nearer one first, from " + start, x, 9 - start, 2, 72);
      x.clock(0, 6);
      roundIs("a minute less, from " + start, x, 9 - start, 1, 8);
    }
  }

  private static void fromWhereHeIs() {
    Edges.says(14, "(As things are now.)");
    for (String signs : new String[] {"J", "x", "+", "A", ".".repeat(60)}) {
      BathBaskets said = Edges.evening(signs);
      said.clock(0, 48);
      roundIs("with " + signs + " on the pad", said, 0, 10, 1023);
    }
    BathBaskets x = Edges.evening("=J");
    x.basket(0, 0, 9);
    x.basket(9, 0, 1);
    x.done();
    x.clock(0, 1);
    roundIs("what stands in the cabin counts", x, 0, 1, 1);
    x.attendant(9, 255, 255);
    x.clock(0, 8);
    roundIs("what stands in the cabin counts", x, 9, 1, 128);
    x.basket(8, 0, 9);
    roundIs("nine minutes next door", x, 9, 1, 128);
    x.clock(0, 6);
    roundIs("eight minutes there, and none is left", x, 9, 0, 0);
  }

  // ---- 15 show

  private static void showIs(String what, BathBaskets x, int set, int many, int baskets) {
    Edges.due(what + ": how many", x.show(set, 0), many);
    Edges.due(what + ": baskets", x.show(set, 1), baskets);
  }

  /** Things 0 to 7 in baskets 9 to 2, one in each. */
  private static BathBaskets oneInEach() {
    BathBaskets x = new BathBaskets();
    for (int thing = 0; thing <= 7; thing++) {
      x.basket(9 - thing, 1 << thing, 3);
    }
    return x;
  }

  private static void show() {
    Edges.says(15, "the fewest BASKETS that should be gone through so that all of a set of THINGS are SEEN");
    showIs("the empty set, nothing anywhere", new BathBaskets(), 0, 0, 0);
    showIs("the empty set", oneInEach(), 0, 0, 0);
    showIs("thing 0", oneInEach(), 1, 1, 512);
    showIs("thing 7", oneInEach(), 128, 1, 4);
    showIs("all of them, one in each", oneInEach(), 255, 8, 1020);
    BathBaskets x = oneInEach();
    x.basket(1, 255, 9);
    showIs("all of them, in one", x, 255, 1, 2);

    Edges.says(15, "which (bits of BASKETS), least of as few; NONE");
    showIs("the greater basket has it, too", x, 128, 1, 2);
    x.basket(0, 255, 9);
    showIs("basket 0", x, 255, 1, 1);
    BathBaskets pairs = new BathBaskets();
    pairs.basket(3, 1, 3);
    pairs.basket(5, 1, 3);
    pairs.basket(4, 128, 3);
    pairs.basket(6, 128, 3);
    showIs("the least two", pairs, 129, 2, 24);
    pairs.basket(9, 129, 3);
    showIs("one, though greater as bits", pairs, 129, 1, 512);
    showIs("nowhere", pairs, 2, Edges.NONE, Edges.NONE);
    showIs("one of them nowhere", pairs, 131, Edges.NONE, Edges.NONE);
    showIs("all, nothing anywhere", new BathBaskets(), 255, Edges.NONE, Edges.NONE);

    Edges.says(15, "(with what he has SEEN)");
    pairs.attendant(0, 2, 0);
    showIs("what he has is not seen", pairs, 2, Edges.NONE, Edges.NONE);
    pairs.attendant(0, 0, 2);
    showIs("seen, and nowhere", pairs, 2, 0, 0);
    showIs("one seen, two to show", pairs, 131, 1, 512);
    BathBaskets seen = new BathBaskets();
    seen.attendant(0, 0, 255);
    showIs("all seen", seen, 255, 0, 0);
    seen.attendant(0, 0, 127);
    showIs("all but one", seen, 255, Edges.NONE, Edges.NONE);

    Edges.says(15, "(As things are now.)");
    BathBaskets said = Edges.evening("-0");
    said.basket(0, 1, 3);
    showIs("what is only said does not count", said, 1, 1, 1);
    said.done();
    showIs("what is done does", said, 1, 0, 0);
    BathBaskets changed = Edges.evening("=J");
    changed.basket(0, 1, 3);
    changed.done();
    showIs("baskets, not cabins", changed, 1, 1, 1);
    changed.clock(99, 0);
    showIs("the bell does not count", changed, 1, 1, 1);

    Edges.says(15, "OUTSIDE: the set 0 to 255, what.");
    Edges.Call call = (y, a) -> y.show(a[0], a[1]);
    Edges.refusesBeyond("show", call, Edges.set(), Edges.number(0, 1));
    for (int set = 0; set <= 255; set += 255) {
      Edges.changesNothing("show", call, set, 0);
      Edges.changesNothing("show", call, set, 1);
    }
  }

  // ---- 16 owners

  private static void owners() {
    Edges.says(16, "THINGS of a set, each with a BASKET of its own that has it: the most at once");
    BathBaskets empty = new BathBaskets();
    Edges.due("the empty set", empty.owners(0, -1), 0);
    Edges.due("all, nothing anywhere", empty.owners(255, -1), 0);
    Edges.due("all, one in each", oneInEach().owners(255, -1), 8);
    Edges.due("thing 0", oneInEach().owners(1, -1), 1);
    Edges.due("thing 7", oneInEach().owners(128, -1), 1);
    BathBaskets one = new BathBaskets();
    one.basket(9, 255, 3);
    Edges.due("all in one", one.owners(255, -1), 1);
    Edges.due("the empty set, all in one", one.owners(0, -1), 0);

    Edges.says(16, "THING 0 the least BASKET that it can, else none, then THING 1, and so on");
    Edges.due("thing 0 is first", one.owners(255, 0), 9);
    Edges.due("thing 1 has none then", one.owners(255, 1), Edges.NONE);
    Edges.due("thing 7 has none then", one.owners(255, 7), Edges.NONE);
    Edges.due("thing 7, if it is alone", one.owners(128, 7), 9);
    Edges.due("thing 6 before thing 7", one.owners(192, 6), 9);
    Edges.due("thing 7 behind thing 6", one.owners(192, 7), Edges.NONE);
    one.basket(4, 3, 3);
    Edges.due("the least", one.owners(255, 0), 4);
    Edges.due("thing 1 the next", one.owners(255, 1), 9);
    one.basket(9, 1, 3);
    Edges.due("the most at once goes first", one.owners(3, -1), 2);
    Edges.due("so not the least", one.owners(3, 0), 9);
    Edges.due("thing 1 can no other", one.owners(3, 1), 4);
    BathBaskets all = new BathBaskets();
    for (int b = 0; b <= 9; b++) {
      all.basket(b, 255, 3);
    }
    for (int thing = 0; thing <= 7; thing++) {
      Edges.due("one in each, thing " + thing, oneInEach().owners(255, thing), 9 - thing);
      Edges.due("all in each, thing " + thing, all.owners(255, thing), thing);
      Edges.due("nothing anywhere, thing " + thing, empty.owners(255, thing), Edges.NONE);
      Edges.due("it alone, nowhere, thing " + thing, empty.owners(1 << thing, -1), 0);
    }

    Edges.says(16, "NONE: with none, or it is not of the set");
    for (int thing = 0; thing <= 7; thing++) {
      Edges.due("the empty set, thing " + thing, all.owners(0, thing), Edges.NONE);
      Edges.due("all others, thing " + thing, all.owners(255 - (1 << thing), thing), Edges.NONE);
      Edges.due("it alone, thing " + thing, all.owners(1 << thing, thing), 0);
    }

    Edges.says(16, "(As things are now.)");
    BathBaskets changed = Edges.evening("=J");
    changed.basket(0, 1, 3);
    changed.done();
    Edges.say(changed, "J-0");
    Edges.due("baskets, not cabins, and nothing that is only said", changed.owners(1, 0), 0);
    changed.attendant(0, 2, 4);
    Edges.due("what he has and has seen is in no basket", changed.owners(6, -1), 0);

    Edges.says(16, "UNKNOWN: the THING; OUTSIDE: the set.");
    Edges.Call call = (y, a) -> y.owners(a[0], a[1]);
    Edges.refusesBeyond("owners", call, Edges.set(), new Edges.Bound(-1, 7, Edges.UNKNOWN));
    for (int set = 0; set <= 255; set += 255) {
      Edges.changesNothing("owners", call, set, -1);
      Edges.changesNothing("owners", call, set, 7);
    }
  }

  // ---- 17 towels

  private static void towels() {
    BathBaskets x = new BathBaskets();
    Edges.says(17, "the fewest changes of two that put all right");
    int[][] changes = {{12345, 0}, {12354, 1}, {102345, 1}, {512340, 1}, {103254, 3}, {123450, 5}, {543210, 3}};
    for (int[] c : changes) {
      Edges.due(Edges.show("towels", c[0], 0), x.towels(c[0], 0), c[1]);
    }

    Edges.says(17, "how often the same must be done (once at least");
    int[][] often = {{12345, 1}, {12354, 2}, {120345, 3}, {123045, 4}, {123405, 5}, {123450, 6}, {120435, 6},
        {120453, 3}, {123054, 4}, {543210, 2}};
    for (int[] o : often) {
      Edges.due(Edges.show("towels", o[0], 1), x.towels(o[0], 1), o[1]);
    }

    Edges.says(17, "a row of six digits (0 to 5, each once; digit i is whose hangs on hook i)");
    int rows = 0;
    for (int row = 12345; row <= 543210; row += 9) {
      x = (row - 12345) / 9 % 500 == 0 ? new BathBaskets() : x;
      rows += x.towels(row, 0) == Edges.OUTSIDE ? 0 : 1;
    }
    // all rows have the same sum of digits, so that they are all some nines above the least
    Edges.due("rows from the least to the greatest", rows, 720);

    Edges.says(17, "OUTSIDE: a row that is none, what.");
    int[] none = {
        Edges.LEAST, -543210, -12345, -1, 0, 1, 5, 12344, 12346, 543209, 543211, // about the edges
        12340, 12335, 2345, 1234, 555555, 11111, // twice, or too few
        12346, 612345, 62345, 12349, 912345, 13456, // a digit above 5
        1012345, 2012345, 6012345, 1123450, 10012345, 1000012345, 2000543210, Edges.MOST}; // too many
    Edges.Call call = (y, a) -> y.towels(a[0], a[1]);
    for (int row : none) {
      for (int what = -1; what <= 2; what++) {
        Edges.refusedEverywhere("towels", call, Edges.OUTSIDE, row, what);
      }
    }
    for (int row : new int[] {12345, 543210}) {
      for (int what : Edges.number(0, 1).beyond()) {
        Edges.refusedEverywhere("towels", call, Edges.OUTSIDE, row, what);
      }
      Edges.changesNothing("towels", call, row, 0);
      Edges.changesNothing("towels", call, row, 1);
    }
    BathBaskets again = new BathBaskets();
    again.towels(123450, 0);
    again.towels(543216, 0);
    Edges.due("a row behind one that is none", again.towels(12345, 1), 1);
  }

  public static void main(String[] args) {
    round();
    show();
    owners();
    towels();
    Edges.end();
  }
}
