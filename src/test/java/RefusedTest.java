import java.util.ArrayList;
import java.util.List;

/**
 * Calls that are refused, in objects of every state: which exception is thrown (of several the one that the document
 * names first), and that nothing is changed by it, neither what can be asked now nor what comes later.
 */
public final class RefusedTest {
  private static final String INDEX = "throws IndexOutOfBoundsException";
  private static final String ARGUMENT = "throws IllegalArgumentException";
  private static final String STATE = "throws IllegalStateException";
  private static final double NAN = 0.0 / 0.0;

  private interface Ask {
    Object answer(DuctBalance x);
  }

  private interface Tell {
    void tell(DuctBalance x);
  }

  private record Refusal(String what, Ask ask, String due) {}

  private final List<Refusal> refusals = new ArrayList<>();
  private final int joints;
  private final int ducts;
  private final int machines;

  private RefusedTest(DuctBalance probe) {
    joints = probe.count(0);
    ducts = probe.count(1);
    machines = probe.count(2);
  }

  public static void main(String[] args) {
    checkScenes();
    check("empty", Scenes::empty, always(Scenes.empty()).unsolved().noList());
    check("empty, solved", Scenes::emptySolved, always(Scenes.emptySolved()).noList());
    check("solved", Scenes::solved, always(Scenes.solved()));
    check("without a list", Scenes::withoutList, always(Scenes.withoutList()).noList());
    check("told since", Scenes::toldSince, always(Scenes.toldSince()).unsolved());
    check("never solved", Scenes::neverSolved, always(Scenes.neverSolved()).unsolved().noList());
    check("failed", Scenes::failed, always(Scenes.failed()).unsolved());
    check("full", Scenes::full, always(Scenes.full()).noRoom());
    check("full, told since", Scenes::fullToldSince, always(Scenes.fullToldSince()).unsolved().noRoom());
    Check.end("RefusedTest");
  }

  // a scene that is not what its name says would let refusals pass that were never tried
  private static void checkScenes() {
    Check.due("solved is solved", () -> Scenes.solved().keeps(0), true);
    Check.due("a leak is fitted", () -> Scenes.solved().of(0, 3) > 0, true);
    Check.due("a gate is closed", () -> Scenes.solved().draws(0, 0) < 1, true);
    Check.due("full is solved", () -> Scenes.full().keeps(0), true);
    Check.due("a gate of the full one is closed", () -> Scenes.full().draws(0, 0) < 1, true);
    Check.due("the failed one failed", () -> {
      DuctBalance x = Scenes.solved();
      x.fan(1000, 1000);
      return x.solve(1);
    }, -1);
  }

  private static void check(String scene, Scenes.Scene maker, RefusedTest test) {
    for (Refusal refusal : test.refusals) {
      String what = scene + ": " + refusal.what;
      DuctBalance x = maker.make();
      DuctBalance twin = maker.make();
      Check.same(what, Check.outcome(() -> refusal.ask.answer(x)), refusal.due);
      Check.sameLines(what + " changes nothing", Look.now(x), Look.now(twin));
      Check.sameLines(what + " changes nothing that comes later", Look.later(x), Look.later(twin));
    }
  }

  private static RefusedTest always(DuctBalance probe) {
    RefusedTest test = new RefusedTest(probe);
    test.noSuch();
    test.notAsSaid();
    return test;
  }

  private void refuse(String what, String due, Ask ask) {
    refusals.add(new Refusal(what, ask, due));
  }

  private void refuseTold(String what, String due, Tell tell) {
    refuse(what, due, x -> {
      tell.tell(x);
      return "done";
    });
  }

  // the first that there is not at both ends, and such as would be there if a number were cut or shifted round
  private static int[] none(int bound) {
    return new int[] {-1, bound, 32, -32, 256, 65536, Integer.MIN_VALUE, Integer.MAX_VALUE};
  }

  private void noSuch() {
    for (int no : none(joints)) {
      refuse("duct from joint " + no, INDEX, x -> x.duct(no, 0, 1, 1));
      refuse("duct to joint " + no, INDEX, x -> x.duct(0, no, 1, 1));
      refuse("duct from and to joint " + no, INDEX, x -> x.duct(no, no, 1, 1));
      refuse("machine at joint " + no, INDEX, x -> x.machine(no, 1));
      refuse("at joint " + no, INDEX, x -> x.at(no, 0));
    }
    for (int no : none(ducts)) {
      refuse("of duct " + no, INDEX, x -> x.of(no, 0));
      refuseTold("read duct " + no, INDEX, x -> x.read(no, 1));
    }
    for (int no : none(machines)) {
      refuse("draws of machine " + no, INDEX, x -> x.draws(no, 0));
      refuseTold("use of machine " + no, INDEX, x -> x.use(0, no, true));
    }
    for (int no : none(4)) {
      refuseTold("use in case " + no, INDEX, x -> x.use(no, 0, true));
      refuseTold("no use in case " + no, INDEX, x -> x.use(no, 0, false));
      refuse("solve in case " + no, INDEX, x -> x.solve(no));
      refuse("size in case " + no, INDEX, x -> x.size(no));
      refuse("count what " + no, INDEX, x -> x.count(no));
      refuse("of what " + no, INDEX, x -> x.of(0, no));
    }
    for (int no : none(2)) {
      refuse("at what " + no, INDEX, x -> x.at(0, no));
      refuse("draws what " + no, INDEX, x -> x.draws(0, no));
    }
    refuse("duct: no joint before wrong numbers", INDEX, x -> x.duct(0, joints, 0, 0));
    refuse("machine: no joint before a wrong need", INDEX, x -> x.machine(joints, 0));
    refuseTold("read: no duct before a wrong reading", INDEX, x -> x.read(ducts, -1));
  }

  private void notAsSaid() {
    refuse("duct of one joint", ARGUMENT, x -> x.duct(joints - 1, joints - 1, 1, 1));
    refuse("duct of joint 0 alone", ARGUMENT, x -> x.duct(0, 0, 1, 1));
    refuse("machine at the fan", ARGUMENT, x -> x.machine(0, 1));
    for (double no : wrong(0.125, 100)) {
      refuse("list width " + no, ARGUMENT, x -> x.list(no, 1));
      if (joints > 1) {
        refuse("duct length " + no, ARGUMENT, x -> x.duct(0, 1, no, 1));
        refuse("duct width " + no, ARGUMENT, x -> x.duct(1, 0, 1, no));
      }
    }
    for (double no : wrong(0.125, 1000)) {
      if (joints > 1) {
        refuse("need " + no, ARGUMENT, x -> x.machine(1, no));
      }
    }
    for (double no : wrong(0, 1000)) {
      refuseTold("strength " + no, ARGUMENT, x -> x.fan(no, 1));
      refuseTold("fall " + no, ARGUMENT, x -> x.fan(1, no));
    }
    for (double no : wrong(0, 10000)) {
      // duct 0 may have a reading already, duct 1 has none
      for (int duct = 0; duct < Math.min(2, ducts); duct++) {
        int asked = duct;
        refuseTold("reading " + no + " of duct " + asked, ARGUMENT, x -> x.read(asked, no));
      }
    }
    for (int no : new int[] {-1, 1000001, Integer.MIN_VALUE, Integer.MAX_VALUE}) {
      refuse("cents " + no, ARGUMENT, x -> x.list(1, no));
    }
    for (int no : new int[] {-1, 51, Integer.MIN_VALUE, Integer.MAX_VALUE}) {
      refuse("fit rounds " + no, ARGUMENT, x -> x.fit(no));
    }
    for (double no : new double[] {-Double.MIN_VALUE, -1, -Double.MAX_VALUE, -1.0 / 0.0}) {
      refuse("keeps " + no, ARGUMENT, x -> x.keeps(no));
    }
  }

  private static double[] wrong(double least, double most) {
    return new double[] {Math.nextDown(least), Math.nextUp(most), -least - 1, -most, Double.MAX_VALUE,
        -Double.MAX_VALUE, 1.0 / 0.0, -1.0 / 0.0, NAN};
  }

  private RefusedTest unsolved() {
    refuse("at 0, not solved", STATE, x -> x.at(0, 0));
    refuse("at 1, not solved", STATE, x -> x.at(0, 1));
    refuse("keeps, not solved", STATE, x -> x.keeps(0));
    refuse("fit, not solved", STATE, x -> x.fit(0));
    refuse("fit 50, not solved", STATE, x -> x.fit(50));
    for (int what = 0; what < 4 && ducts > 0; what++) {
      int asked = what;
      refuse("of " + asked + ", not solved", STATE, x -> x.of(0, asked));
    }
    for (int what = 0; what < 2 && machines > 0; what++) {
      int asked = what;
      refuse("draws " + asked + ", not solved", STATE, x -> x.draws(0, asked));
    }
    return this;
  }

  private RefusedTest noList() {
    for (int caseOf = 0; caseOf < 4; caseOf++) {
      int asked = caseOf;
      refuse("size without a list", STATE, x -> x.size(asked));
    }
    return this;
  }

  private RefusedTest noRoom() {
    refuse("an eleventh joint", STATE, DuctBalance::joint);
    refuse("a 17th duct", STATE, x -> x.duct(0, 1, 1, 1));
    refuse("a ninth machine", STATE, x -> x.machine(1, 1));
    refuse("a seventh size", STATE, x -> x.list(1, 1));
    return this;
  }
}
