/** The acts of the document's first part and its second part, promises 9 to 13: sentences that name an edge. */
public final class EveningEdgesTest {
  private static final String ALL_LOOKED_THROUGH = "?B?C?D?E?F?G?H?I?J?";

  private static BathBaskets at(int cabin, int has, int seen, String signs) {
    BathBaskets x = Edges.evening(signs);
    x.attendant(cabin, has, seen);
    return x;
  }

  private static BathBaskets timed(int now, int bell, String signs) {
    BathBaskets x = Edges.evening(signs);
    x.clock(now, bell);
    return x;
  }

  private static void cabins() {
    Edges.says(9, "CABINS 0 to 9 (A to J) are in a row");
    Edges.due("A", at(9, 0, 0, "A").his(0), 0);
    Edges.due("J", at(0, 0, 0, "J").his(0), 9);
    Edges.due("=A", at(9, 0, 0, "=A").behind(0, 0), 9);
    Edges.due("=J", at(0, 0, 0, "=J").behind(9, 0), 0);
    for (String none : new String[] {"@", "K", "a", "j", "0", "9"}) {
      Edges.due(none, at(5, 0, 0, none).his(0), Edges.NO);
      Edges.due("=" + none, at(5, 0, 0, "=" + none).his(0), Edges.NO);
    }
    BathBaskets round = Edges.evening("JA");
    Edges.due("it does not close to a ring", round.his(3), 18);
  }

  private static void acts() {
    Edges.says(9, "a CABIN's letter (the ATTENDANT goes there: a minute for each CABIN between, and one for that one)");
    int[][] ways = {{0, 1}, {1, 0}, {0, 9}, {9, 0}, {9, 8}, {8, 9}, {4, 6}, {6, 4}};
    for (int[] way : ways) {
      BathBaskets x = at(way[0], 0, 0, String.valueOf((char) ('A' + way[1])));
      Edges.due("there, from " + way[0], x.his(0), way[1]);
      int minutes = Math.abs(way[0] - way[1]);
      Edges.due("minutes from " + way[0] + " to " + way[1], x.his(3), minutes);
      x.clock(99 - minutes, 99);
      Edges.due("by the bell from " + way[0] + " to " + way[1], x.judge(1), Edges.NONE);
      x.clock(100 - minutes, 99);
      Edges.due("too late from " + way[0] + " to " + way[1], x.judge(1), 4);
    }

    Edges.says(9, "goes through the BASKET where he is, as many minutes as it wants: has SEEN all THINGS in it besides");
    BathBaskets look = at(9, 0, 64, "?");
    Edges.due("an empty basket: as before", look.his(2), 64);
    Edges.due("three minutes at first", look.his(3), 3);
    look.basket(9, 1, 1);
    Edges.due("the fewest minutes", look.his(3), 1);
    Edges.due("besides", look.his(2), 65);
    look.basket(9, 255, 9);
    Edges.due("the most minutes", look.his(3), 9);
    Edges.due("all things", look.his(2), 255);
    Edges.due("he has none by it", look.his(1), 0);
    Edges.due("they stay in it", look.behind(9, 1), 255);

    Edges.says(9, "+ and a digit 0 to 7 (lays that THING into it)");
    BathBaskets lay = at(0, 255, 0, "+0+7");
    lay.basket(0, 2, 3);
    Edges.due("in it", lay.behind(0, 1), 131);
    Edges.due("not with him", lay.his(1), 126);
    Edges.due("not seen by it", lay.his(2), 0);
    Edges.due("no minute", lay.his(3), 0);

    Edges.says(9, "- and a digit 0 to 7 (takes that THING out of it: HAS it then, and has SEEN it)");
    BathBaskets take = at(0, 2, 4, "-0-7");
    take.basket(0, 255, 3);
    Edges.due("not in it", take.behind(0, 1), 126);
    Edges.due("with him", take.his(1), 131);
    Edges.due("seen, and nothing else of it", take.his(2), 133);
    Edges.due("no minute", take.his(3), 0);
    take.attendant(0, 0, 129);
    Edges.due("seen before stays seen", take.his(2), 129);

    Edges.says(9, "= and a CABIN's letter (the BASKETS here and there are changed, at once)");
    BathBaskets change = at(9, 0, 0, "=A");
    change.basket(9, 9, 9);
    Edges.due("there", change.behind(0, 0), 9);
    Edges.due("with what is in it", change.behind(0, 1), 9);
    Edges.due("here", change.behind(9, 0), 0);
    Edges.due("he stays", change.his(0), 9);
    Edges.due("at once", change.his(3), 0);

    Edges.says(9, "or . (a minute)");
    Edges.due("one", Edges.evening(".").his(3), 1);
    Edges.due("60 of them", Edges.evening(".".repeat(60)).his(3), 60);
    Edges.due("he stays", at(9, 0, 0, ".").his(0), 9);
  }

  private static void reasons() {
    Edges.says(9, "1 he is there already (a letter alone), both are one (=)");
    for (int cabin = 0; cabin <= 9; cabin++) {
      char letter = (char) ('A' + cabin);
      Edges.due("to where he is, " + letter, at(cabin, 0, 0, "" + letter).judge(1), 1);
      Edges.due("changed with itself, " + letter, at(cabin, 0, 0, "=" + letter).judge(1), 1);
      Edges.due("to another, " + letter, at((cabin + 1) % 10, 0, 0, "" + letter).judge(1), Edges.NONE);
      Edges.due("changed with another, " + letter, at((cabin + 1) % 10, 0, 0, "=" + letter).judge(1), Edges.NONE);
    }
    Edges.due("both are one where he came to", Edges.evening("J=J").judge(1), 1);
    Edges.due("not where he came from", Edges.evening("J=A").judge(1), Edges.NONE);

    for (int thing = 0; thing <= 7; thing++) {
      reasonsOfThing(thing);
    }
    byTheBell();
  }

  private static BathBaskets withThing(String act, int has, int inBasket) {
    BathBaskets x = at(3, has, 0, act);
    x.basket(3, inBasket, 3);
    return x;
  }

  private static void reasonsOfThing(int thing) {
    int only = 1 << thing, others = 255 - only;
    String lay = "+" + thing, take = "-" + thing;
    Edges.says(9, "2 he HAS not that THING (+), the BASKET has not (-)");
    Edges.due(lay + ", he has all others", withThing(lay, others, 0).judge(1), 2);
    Edges.due(take + ", it has all others", withThing(take, 0, others).judge(1), 2);
    Edges.due(lay + ", he has it alone", withThing(lay, only, others).judge(1), Edges.NONE);
    Edges.due(take + ", it is in it alone", withThing(take, others, only).judge(1), Edges.NONE);

    Edges.says(9, "3 the BASKET has it already (+), he has (-)");
    Edges.due(lay + ", both have it", withThing(lay, only, only).judge(1), 3);
    Edges.due(take + ", both have it", withThing(take, only, only).judge(1), 3);

    Edges.says(9, "An ACT can not be for the least of these reasons");
    Edges.due(lay + ", he has not, the basket has", withThing(lay, 0, only).judge(1), 2);
    Edges.due(take + ", the basket has not, he has", withThing(take, only, 0).judge(1), 2);
  }

  private static void byTheBell() {
    Edges.says(9, "4 the CLOCK would be above the BELL (a letter alone, ?, .)");
    Object[][] lasting = {{"B", 1}, {"J", 9}, {"?", 3}, {".", 1}, {"B?.", 5}};
    for (Object[] l : lasting) {
      String signs = (String) l[0];
      int minutes = (Integer) l[1];
      for (int bell : new int[] {60, 99, minutes}) {
        BathBaskets x = timed(bell - minutes, bell, signs);
        Edges.due(signs + " up to the bell at " + bell, x.judge(1), Edges.NONE);
        Edges.due(signs + " up to the bell at " + bell, x.his(3), bell);
        Edges.due(signs + " a minute too late", timed(bell - minutes + 1, bell, signs).judge(1), 4);
      }
      Edges.due(signs + " at the bell", timed(60, 60, signs).judge(0), 0);
      Edges.due(signs + " at 99", timed(99, 99, signs).judge(1), 4);
      Edges.due(signs + " at 0", timed(0, 0, signs).judge(1), 4);
      Edges.due(signs + " behind the bell", timed(99, 0, signs).judge(1), 4);
    }
    BathBaskets nine = timed(90, 99, "?");
    nine.basket(0, 0, 9);
    Edges.due("nine minutes to 99", nine.judge(1), Edges.NONE);
    nine.clock(91, 99);
    Edges.due("nine minutes to 100", nine.judge(1), 4);

    Edges.says(9, "(a letter alone, ?, .)");
    for (int[] c : new int[][] {{60, 60}, {99, 99}, {99, 0}, {0, 0}}) {
      BathBaskets x = timed(c[0], c[1], "=J-1+0=J");
      x.attendant(0, 1, 0);
      x.basket(9, 2, 9);
      Edges.due("no minute is wanted at " + c[0], x.judge(1), Edges.NONE);
      Edges.due("no minute goes", x.his(3), c[0]);
    }

    Edges.says(9, "An ACT can not be for the least of these reasons");
    Edges.due("there already, at the bell", timed(60, 60, "A").judge(1), 1);
    Edges.due("there already, behind it", timed(99, 0, "A").judge(1), 1);
    Edges.due("both are one, behind the bell", timed(99, 0, "=A").judge(1), 1);
    Edges.due("has it not, behind the bell", timed(99, 0, "+0").judge(1), 2);
  }

  // ---- 9 judge

  private static void judge() {
    Edges.says(9, "JUDGED: the first ACT (from 0 on) that can not be, why");
    Object[][] firsts = {
        {"A", 0, 1}, {"BB", 1, 1}, {"=B=BA", 2, 1}, {"BB+0", 1, 1}, {"+0BB", 0, 2}, {".=B=C+3", 3, 2},
        {".".repeat(59) + "A", 59, 1}, {"=B".repeat(29) + "=A", 29, 1}};
    for (Object[] f : firsts) {
      BathBaskets x = Edges.evening((String) f[0]);
      Edges.due("act of " + f[0], x.judge(0), (Integer) f[1]);
      Edges.due("why of " + f[0], x.judge(1), (Integer) f[2]);
    }
    BathBaskets late = timed(0, 59, ".".repeat(60));
    Edges.due("the 60th act is too late", late.judge(0), 59);
    Edges.due("why", late.judge(1), 4);
    late.clock(0, 60);
    Edges.due("it is not with a later bell", late.judge(0), Edges.NONE);

    Edges.says(9, "the ACT (what = 0), why (1), BASKETS (2); NONE.");
    for (String signs : new String[] {"", "B", "=J", ".".repeat(60), "=B".repeat(30)}) {
      Edges.due("act of " + signs, Edges.evening(signs).judge(0), Edges.NONE);
      Edges.due("why of " + signs, Edges.evening(signs).judge(1), Edges.NONE);
    }

    Edges.says(9, "BASKETS that were gone through (as bits)");
    Edges.due("no acts", new BathBaskets().judge(2), 0);
    Edges.due("none", Edges.evening("B=J.").judge(2), 0);
    Edges.due("basket 0", Edges.evening("?").judge(2), 1);
    Edges.due("basket 9", Edges.evening("J?").judge(2), 512);
    Edges.due("one of them twice", Edges.evening("??").judge(2), 1);
    Edges.due("all", Edges.evening(ALL_LOOKED_THROUGH).judge(2), 1023);
    Edges.due("baskets, not cabins", Edges.evening("=J?").judge(2), 512);
    Edges.due("as it stood when he was there", Edges.evening("?=J").judge(2), 1);
    Edges.due("an empty one, too", Edges.evening("C?").judge(2), 4);
    BathBaskets again = Edges.evening("?");
    again.judge(2);
    again.wipe();
    Edges.due("not those of an evening before", Edges.say(again, "B?").judge(2), 2);
    again.done();
    Edges.due("nor those of one that is done", again.judge(2), 0);

    Edges.says(9, "NO: there is a FAULT");
    for (String signs : new String[] {"x", "+", "=", "B+", "+8", ".".repeat(59) + "x", ".".repeat(59) + "+"}) {
      for (int what = 0; what <= 2; what++) {
        Edges.refused(() -> Edges.evening(signs), "judge", (x, a) -> x.judge(a[0]), Edges.NO, what);
      }
    }

    Edges.says(9, "STATE (2): some ACT can not be");
    for (String signs : new String[] {"A", "B?B", ".".repeat(59) + "A"}) {
      Edges.refused(() -> Edges.evening(signs), "judge", (x, a) -> x.judge(a[0]), Edges.STATE, 2);
    }

    Edges.says(9, "OUTSIDE; NO: there is a FAULT; STATE (2): some ACT can not be.");
    Edges.refusesBeyond("judge", (x, a) -> x.judge(a[0]), Edges.number(0, 2));
    for (int what = 0; what <= 2; what++) {
      Edges.refused(() -> Edges.evening("A+"), "judge", (x, a) -> x.judge(a[0]), Edges.NO, what);
      Edges.refused(() -> Edges.evening("AAx"), "judge", (x, a) -> x.judge(a[0]), Edges.NO, what);
      Edges.changesNothing("judge", (x, a) -> x.judge(a[0]), what);
    }
  }

  // ---- what behind, his, wrong and done have in common

  private static void refusedByPad(String name, Edges.Call call, int... a) {
    for (String signs : new String[] {"x", "+", "B=", "A+", "BB8", ".".repeat(59) + "="}) {
      Edges.refused(() -> Edges.evening(signs), name, call, Edges.NO, a);
    }
    for (String signs : new String[] {"A", "=A", "+0", "-7", "B?B", ".".repeat(59) + "A"}) {
      Edges.refused(() -> Edges.evening(signs), name, call, Edges.STATE, a);
    }
    Edges.refused(() -> timed(60, 60, "."), name, call, Edges.STATE, a);
  }

  // ---- 10 behind

  private static void behind() {
    Edges.says(10, "BEHIND: of a CABIN which BASKET stands there; THINGS in it (bits).");
    BathBaskets x = Edges.evening("");
    for (int cabin = 0; cabin <= 9; cabin++) {
      Edges.due("no acts, basket at " + cabin, x.behind(cabin, 0), cabin);
      Edges.due("no acts, things at " + cabin, x.behind(cabin, 1), 0);
    }
    x.basket(9, 255, 1);
    x.basket(0, 1, 1);
    Edges.due("no acts, all things at 9", x.behind(9, 1), 255);
    Edges.say(x, "=J");
    Edges.due("basket at 0", x.behind(0, 0), 9);
    Edges.due("things at 0", x.behind(0, 1), 255);
    Edges.due("basket at 9", x.behind(9, 0), 0);
    Edges.due("things at 9", x.behind(9, 1), 1);
    Edges.due("in fact it stands where it stood", x.told(10), 0);

    Edges.says(10, "UNKNOWN; OUTSIDE; NO, STATE, as of judge(2).");
    Edges.Call call = (y, a) -> y.behind(a[0], a[1]);
    Edges.refusesBeyond("behind", call, Edges.cabin(), Edges.number(0, 1));
    for (int what = 0; what <= 1; what++) {
      refusedByPad("behind", call, 0, what);
      refusedByPad("behind", call, 9, what);
      Edges.changesNothing("behind", call, 9, what);
    }
  }

  // ---- 11 his

  private static void his() {
    Edges.says(11, "HIS: CABIN (what = 0), HAS (1), SEEN (2), the CLOCK (3).");
    BathBaskets x = new BathBaskets();
    for (int what = 0; what <= 3; what++) {
      Edges.due("no acts, at first, his(" + what + ")", x.his(what), 0);
    }
    x.attendant(9, 255, 254);
    x.clock(99, 0);
    int[] most = {9, 255, 254, 99};
    for (int what = 0; what <= 3; what++) {
      Edges.due("no acts, the most, his(" + what + ")", x.his(what), most[what]);
    }
    x.clock(0, 99);
    Edges.say(x, "+7" + ".".repeat(49) + "A");
    int[] behind = {0, 127, 254, 58};
    for (int what = 0; what <= 3; what++) {
      Edges.due("behind them, his(" + what + ")", x.his(what), behind[what]);
      Edges.due("in fact, told(" + (what + 1) + ")", x.told(what + 1), what == 3 ? 0 : most[what]);
    }
    Edges.due("the clock at the bell, at 99", timed(39, 99, ".".repeat(60)).his(3), 99);

    Edges.says(11, "OUTSIDE; NO, STATE, likewise.");
    Edges.Call call = (y, a) -> y.his(a[0]);
    Edges.refusesBeyond("his", call, Edges.number(0, 3));
    for (int what = 0; what <= 3; what++) {
      refusedByPad("his", call, what);
      Edges.changesNothing("his", call, what);
    }
  }

  // ---- 12 wrong

  private static void wrongIs(String what, BathBaskets x, int many, int act, int which) {
    Edges.due(what + ": how many", x.wrong(0), many);
    Edges.due(what + ": the act", x.wrong(1), act);
    Edges.due(what + ": which", x.wrong(2), which);
  }

  private static void wrong() {
    Edges.says(12, "how many CABINS have another BASKET than their own");
    wrongIs("no acts", Edges.evening(""), 0, Edges.NONE, Edges.NONE);
    wrongIs("no change", Edges.evening("B?."), 0, Edges.NONE, Edges.NONE);
    wrongIs("two", Edges.evening("=J"), 2, 0, 0);
    wrongIs("all ten", Edges.evening("=BC=DE=FG=HI=J"), 10, 0, 0);
    wrongIs("all ten by going round", Edges.evening("=B=C=D=E=F=G=H=I=J"), 10, 0, 0);

    Edges.says(12, "the first ACT by which a CABIN that had its own has it no more");
    wrongIs("the first of all", Edges.evening("=B=C"), 3, 0, 0);
    wrongIs("the 60th sign", Edges.evening(".".repeat(58) + "=B"), 2, 58, 0);
    wrongIs("acts, not signs", Edges.evening("B.=A=A"), 0, 2, 0);
    BathBaskets changed = Edges.evening("=J");
    changed.done();
    wrongIs("lost before, no acts", changed, 2, Edges.NONE, Edges.NONE);
    wrongIs("put right by it", Edges.say(changed, "=J"), 0, Edges.NONE, Edges.NONE);
    wrongIs("put right and lost", Edges.say(changed, "=J"), 2, 1, 0);
    changed.wipe();
    wrongIs("neither had its own, one gets it", Edges.say(fourChanged(), "=J"), 3, Edges.NONE, Edges.NONE);
    wrongIs("neither had its own, none gets it", Edges.say(fourChanged(), "=B"), 4, Edges.NONE, Edges.NONE);

    Edges.says(12, "the least CABIN of which that is so by it; NONE");
    wrongIs("the lesser is there", Edges.evening("J=I"), 2, 1, 8);
    wrongIs("the lesser is here", Edges.evening("I=J"), 2, 1, 8);
    wrongIs("the lesser had another's", Edges.say(changed, "=F"), 3, 0, 5);
    changed.wipe();
    wrongIs("the greater had another's", Edges.say(changed, "F=J"), 3, 1, 5);
    BathBaskets nine = Edges.evening("=B=C=D=E=F=G=H=I");
    nine.done();
    wrongIs("the last alone had its own", Edges.say(nine, "=J"), 10, 0, 9);

    Edges.says(12, "OUTSIDE; NO, STATE, likewise.");
    Edges.Call call = (y, a) -> y.wrong(a[0]);
    Edges.refusesBeyond("wrong", call, Edges.number(0, 2));
    for (int what = 0; what <= 2; what++) {
      refusedByPad("wrong", call, what);
      Edges.changesNothing("wrong", call, what);
    }
  }

  /** Cabins 0, 1, 2 and 9 have baskets 2, 9, 1 and 0: none of them has its own to lose. */
  private static BathBaskets fourChanged() {
    BathBaskets x = Edges.evening("=J=B=C");
    x.done();
    return x;
  }

  // ---- 13 done

  private static void done() {
    Edges.says(13, "EVENINGS are DONE (the PAD is empty then): ACTS.");
    Edges.due("no acts", new BathBaskets().done(), 0);
    Edges.due("60 acts", Edges.evening(".".repeat(60)).done(), 60);
    Edges.due("30 acts of 60 signs", Edges.evening("=B".repeat(30)).done(), 30);
    BathBaskets x = Edges.evening(".".repeat(60));
    x.done();
    Edges.due("the clock at the bell", x.told(4), 60);
    Edges.due("the pad is empty", x.told(0), 0);
    Edges.due("a sign more is the first", x.say('.'), 1);
    Edges.due("a minute more can not be", x.done(), Edges.STATE);
    Edges.due("the pad stays", x.told(0), 1);
    x.wipe();
    Edges.due("nothing can be", x.done(), 0);
    BathBaskets late = timed(39, 99, ".".repeat(60));
    late.done();
    Edges.due("the clock at 99", late.told(4), 99);

    Edges.says(13, "DONE: it is so then.");
    BathBaskets told = Edges.fullStand();
    int[] his = new int[4];
    int[] baskets = new int[10], things = new int[10];
    for (int what = 0; what <= 3; what++) {
      his[what] = told.his(what);
    }
    for (int cabin = 0; cabin <= 9; cabin++) {
      baskets[cabin] = told.behind(cabin, 0);
      things[cabin] = told.behind(cabin, 1);
    }
    Edges.due("acts", told.done(), 57);
    for (int what = 0; what <= 3; what++) {
      Edges.due("told(" + (what + 1) + ")", told.told(what + 1), his[what]);
    }
    for (int cabin = 0; cabin <= 9; cabin++) {
      Edges.due("the basket at " + cabin, told.told(10 + cabin), baskets[cabin]);
      Edges.due("things at " + cabin, told.told(100 + 10 * baskets[cabin]), things[cabin]);
    }
    Edges.due("the bell", told.told(5), 95);
    Edges.due("notes", told.told(6), 8);
    told.restore(1);
    Edges.due("the image is as it was kept", told.told(4), 1);

    Edges.says(13, "NO, STATE, likewise.");
    refusedByPad("done", (y, a) -> y.done());
    BathBaskets half = Edges.evening("=JB?.-0");
    Edges.due("not even the acts that can be", half.done(), Edges.STATE);
    Edges.due("the baskets", half.told(10), 0);
    Edges.due("where he is", half.told(1), 0);
    Edges.due("the clock", half.told(4), 0);
    Edges.due("the pad", half.told(0), 7);
    half.basket(1, 1, 1);
    Edges.due("it can be then", half.done(), 5);
  }

  public static void main(String[] args) {
    cabins();
    acts();
    reasons();
    judge();
    behind();
    his();
    wrong();
    done();
    Edges.end();
  }
}
