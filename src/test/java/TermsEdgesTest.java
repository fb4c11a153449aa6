/** What the document says of all calls: how many of them, in which order they are refused, what sets are. */
public final class TermsEdgesTest {

  private static void calls() {
    Edges.says(0, "An object is used for at most 512 calls after it has been made");
    BathBaskets x = new BathBaskets();
    for (int i = 1; i <= 64; i++) {
      Edges.due("basket, time " + i, x.basket(9, 255, 9), i == 1 ? 3 : 2559);
      Edges.due("clock, time " + i, x.clock(0, 60), i == 1 ? 60 : 160);
      Edges.due("say, time " + i, x.say('.'), 1);
      Edges.due("done, time " + i, x.done(), 1);
      Edges.due("found, time " + i, x.found(60, 7), 1);
      Edges.due("forget, time " + i, x.forget(), 1);
      Edges.due("image, time " + i, x.image(1), 1);
      Edges.due("restore, time " + i, x.restore(1), 1);
    }
    BathBaskets fruitless = new BathBaskets();
    for (int i = 1; i <= 511; i++) {
      Edges.due("refused, time " + i, fruitless.clock(100, 0), Edges.OUTSIDE);
    }
    Edges.due("the 512th call", fruitless.clock(99, 0), 60);
  }

  /** Where more than one refusal fits, by the most that can fit at once. */
  private static void order() {
    Edges.says(0, "Calls that are refused answer, the first of these that fits");
    BathBaskets faulty = Edges.evening("A+"), halted = Edges.evening("A"), full = Edges.fullStand();
    Edges.due("UNKNOWN before OUTSIDE", faulty.basket(10, 256, 10), Edges.UNKNOWN);
    Edges.due("UNKNOWN before OUTSIDE", faulty.attendant(-1, -1, -1), Edges.UNKNOWN);
    Edges.due("UNKNOWN before OUTSIDE", faulty.round(10, 2), Edges.UNKNOWN);
    Edges.due("UNKNOWN before OUTSIDE", faulty.owners(256, 8), Edges.UNKNOWN);
    Edges.due("UNKNOWN before OUTSIDE before NO", faulty.behind(10, 2), Edges.UNKNOWN);
    Edges.due("UNKNOWN before NO", faulty.behind(10, 0), Edges.UNKNOWN);
    Edges.due("OUTSIDE before NO", faulty.behind(0, 2), Edges.OUTSIDE);
    Edges.due("UNKNOWN before STATE", halted.behind(10, 0), Edges.UNKNOWN);
    Edges.due("OUTSIDE before STATE", halted.behind(0, 2), Edges.OUTSIDE);
    Edges.due("NO before STATE", faulty.behind(0, 0), Edges.NO);
    Edges.due("OUTSIDE before NO", faulty.judge(3), Edges.OUTSIDE);
    Edges.due("OUTSIDE before STATE", halted.judge(3), Edges.OUTSIDE);
    Edges.due("NO before STATE", faulty.judge(2), Edges.NO);
    Edges.due("OUTSIDE before NO", faulty.his(4), Edges.OUTSIDE);
    Edges.due("OUTSIDE before STATE", halted.his(4), Edges.OUTSIDE);
    Edges.due("NO before STATE", faulty.his(0), Edges.NO);
    Edges.due("OUTSIDE before NO", faulty.wrong(3), Edges.OUTSIDE);
    Edges.due("OUTSIDE before STATE", halted.wrong(3), Edges.OUTSIDE);
    Edges.due("NO before STATE", faulty.wrong(0), Edges.NO);
    Edges.due("NO before STATE", faulty.done(), Edges.NO);
    Edges.due("OUTSIDE before STATE", halted.restore(2), Edges.OUTSIDE);
    Edges.due("OUTSIDE before FULL", full.say(127), Edges.OUTSIDE);
    Edges.due("UNKNOWN before OUTSIDE before FULL", full.found(61, 8), Edges.UNKNOWN);
    Edges.due("UNKNOWN before FULL", full.found(60, 8), Edges.UNKNOWN);
    Edges.due("OUTSIDE before FULL", full.found(61, 7), Edges.OUTSIDE);
  }

  private static void sets() {
    Edges.says(0, "Sets are bits.");
    BathBaskets x = new BathBaskets();
    x.basket(0, 129, 3);
    Edges.due("things 0 and 7", Edges.say(x, "-0-7").his(1), 129);
    x.wipe();
    Edges.due("not thing 1", Edges.say(x, "-1").judge(1), 2);
    Edges.due("baskets 0 and 9", Edges.evening("?J?").judge(2), 513);
  }

  private static void constants() {
    Edges.says(0, "UNKNOWN = -1, OUTSIDE = -2, STATE = -3, FULL = -4, NO = -5, NONE = -6");
    Edges.due("UNKNOWN", BathBaskets.UNKNOWN, -1);
    Edges.due("OUTSIDE", BathBaskets.OUTSIDE, -2);
    Edges.due("STATE", BathBaskets.STATE, -3);
    Edges.due("FULL", BathBaskets.FULL, -4);
    Edges.due("NO", BathBaskets.NO, -5);
    Edges.due("NONE", BathBaskets.NONE, -6);

    Edges.says(0, "GONE = -1000000000000000000L");
    Edges.due("GONE", BathBaskets.GONE, -1000000000000000000L);
  }

  public static void main(String[] args) {
    calls();
    order();
    sets();
    constants();
    Edges.end();
  }
}
