/** Each promise by itself: ordinary inputs, the edges that the document names, wrong inputs, their order. */
public final class PromisesTest {
  private static final double NAN = 0.0 / 0.0;
  private static final double INFINITE = 1.0 / 0.0;
  private static final int[] NO_NUMBERS = {-1, Integer.MIN_VALUE, Integer.MAX_VALUE};

  public static void main(String[] args) {
    newObject();
    joint();
    duct();
    machine();
    use();
    fan();
    solveRounds();
    smallChanges();
    solveGates();
    solveFan();
    solveCases();
    whatUnsolves();
    at();
    of();
    draws();
    keeps();
    list();
    size();
    sizeLeavesSolved();
    read();
    fit();
    fitFollowsTheFlow();
    count();
    Check.end("PromisesTest");
  }

  private static Object use(DuctBalance x, int caseOf, int machine, boolean on) {
    x.use(caseOf, machine, on);
    return "done";
  }

  private static Object fan(DuctBalance x, double strength, double fall) {
    x.fan(strength, fall);
    return "done";
  }

  private static Object read(DuctBalance x, int duct, double v) {
    x.read(duct, v);
    return "done";
  }

  private static void newObject() {
    DuctBalance x = new DuctBalance();
    Check.due("new: joints", () -> x.count(0), 1);
    Check.due("new: ducts", () -> x.count(1), 0);
    Check.due("new: machines", () -> x.count(2), 0);
    Check.due("new: sizes", () -> x.count(3), 0);
    Check.state("new: not solved", () -> x.at(0, 0));
    Check.due("new: one round", () -> x.solve(0), 1);
    Check.due("new: the fan's strength", () -> x.at(0, 0), -64.0);
    Check.due("NONE", () -> DuctBalance.NONE, -1);
    DuctBalance other = new DuctBalance();
    x.joint();
    Check.due("objects stand alone", () -> other.count(0), 1);
  }

  private static void joint() {
    DuctBalance x = new DuctBalance();
    for (int number = 1; number <= 9; number++) {
      Check.due("joint " + number, x::joint, number);
    }
    x.solve(0);
    Check.state("an eleventh joint", x::joint);
    Check.due("an eleventh joint changes nothing", () -> x.at(9, 0), 0.0);
    Check.due("ten joints", () -> x.count(0), 10);
  }

  private static void duct() {
    DuctBalance x = new DuctBalance();
    x.joint();
    x.joint();
    for (int no : NO_NUMBERS) {
      Check.index("duct from no joint", () -> x.duct(no, 1, 1, 1));
      Check.index("duct to no joint", () -> x.duct(1, no, 1, 1));
    }
    Check.index("duct to a joint not told", () -> x.duct(0, 3, 0, 0));
    Check.index("duct of one joint that is none", () -> x.duct(3, 3, 1, 1));
    Check.argument("duct to its own joint", () -> x.duct(1, 1, 1, 1));
    double[] wrong = {0.1249, 100.01, 0, -1, NAN, INFINITE, -INFINITE};
    for (double no : wrong) {
      Check.argument("length " + no, () -> x.duct(0, 1, no, 1));
      Check.argument("width " + no, () -> x.duct(0, 1, 1, no));
    }
    Check.due("no duct came of it", () -> x.count(1), 0);
    Check.due("least", () -> x.duct(0, 1, 0.125, 0.125), 0);
    Check.due("most", () -> x.duct(1, 0, 100, 100), 1);
    Check.due("beside another", () -> x.duct(0, 1, 0.125, 100), 2);
    x.solve(0);
    Check.due("ease of the least", () -> x.of(0, 2), 0.015625);
    Check.due("ease of the most", () -> x.of(1, 2), 10000.0);
    for (int number = 3; number < 16; number++) {
      int due = number;
      Check.due("duct " + number, () -> x.duct(0, 2, 1, 1), due);
    }
    x.solve(0);
    Check.index("a 17th: first no joint", () -> x.duct(0, 3, 1, 1));
    Check.argument("a 17th: then a wrong number", () -> x.duct(0, 1, 0, 1));
    Check.state("a 17th: then no room", () -> x.duct(0, 1, 1, 1));
    Check.due("a 17th changes nothing", () -> x.at(0, 0), -64.0);
    Check.due("16 ducts", () -> x.count(1), 16);
  }

  private static void machine() {
    DuctBalance x = new DuctBalance();
    x.joint();
    for (int no : NO_NUMBERS) {
      Check.index("machine at no joint", () -> x.machine(no, 1));
    }
    Check.index("machine at a joint not told", () -> x.machine(2, 0));
    Check.argument("machine at the fan", () -> x.machine(0, 1));
    double[] wrong = {0.1249, 1000.01, 0, -1, NAN, INFINITE};
    for (double no : wrong) {
      Check.argument("need " + no, () -> x.machine(1, no));
    }
    Check.due("no machine came of it", () -> x.count(2), 0);
    Check.due("least", () -> x.machine(1, 0.125), 0);
    Check.due("most", () -> x.machine(1, 1000), 1);
    for (int number = 2; number < 8; number++) {
      int due = number;
      Check.due("machine " + number, () -> x.machine(1, 1), due);
    }
    x.solve(0);
    Check.argument("a ninth: first a wrong number", () -> x.machine(1, 0));
    Check.state("a ninth: then no room", () -> x.machine(1, 1));
    Check.due("a ninth changes nothing", () -> x.draws(7, 0), 0.0);
    Check.due("8 machines", () -> x.count(2), 8);
  }

  private static void use() {
    DuctBalance x = Scenes.half(64, 0, 1000);
    x.use(0, 0, false);
    x.solve(0);
    Check.due("used no more", () -> x.draws(0, 1), 0.0);
    x.use(3, 0, true);
    x.solve(0);
    Check.due("not in another case", () -> x.draws(0, 1), 0.0);
    x.solve(3);
    Check.due("in the last case", () -> x.draws(0, 1), 256.0);
    x.use(3, 0, true);
    x.solve(3);
    Check.due("used twice is used", () -> x.draws(0, 1), 256.0);
    for (int no : NO_NUMBERS) {
      Check.index("no case", () -> use(x, no, 0, true));
      Check.index("no machine", () -> use(x, 0, no, true));
    }
    Check.index("case 4", () -> use(x, 4, 0, true));
    Check.index("machine 1", () -> use(x, 0, 1, true));
    Check.due("a wrong use changes nothing", () -> x.draws(0, 1), 256.0);
    x.use(3, 0, false);
    x.use(3, 0, false);
    x.solve(3);
    Check.due("unused twice is unused", () -> x.draws(0, 1), 0.0);
  }

  private static void fan() {
    DuctBalance x = Scenes.solvedHalf();
    double[] wrong = {-0.001, 1000.01, NAN, INFINITE, -INFINITE};
    for (double no : wrong) {
      Check.argument("strength " + no, () -> fan(x, no, 1));
      Check.argument("fall " + no, () -> fan(x, 1, no));
    }
    Check.due("a wrong fan changes nothing", () -> x.at(0, 0), -64.0);
    Check.due("least", () -> fan(x, 0, 0), "done");
    Check.due("no pressure, no change", () -> x.solve(0), 1);
    Check.due("least pressure", () -> x.at(0, 0), 0.0);
    Check.due("most", () -> fan(x, 1000, 1000), "done");
    Check.due("a steep fan does not come to rest", () -> x.solve(0), -1);
    x.fan(1000, 0);
    x.solve(0);
    Check.due("most strength", () -> x.at(0, 0), -1000.0);
  }

  private static void solveRounds() {
    DuctBalance x = Scenes.half(64, 0, 1000);
    Check.due("two rounds", () -> x.solve(0), 2);
    Check.due("half the pressure", () -> x.at(1, 0), -32.0);
    for (int no : NO_NUMBERS) {
      Check.index("no case", () -> x.solve(no));
    }
    Check.index("case 4", () -> x.solve(4));
    Check.due("a wrong case changes nothing", () -> x.at(1, 0), -32.0);
    Check.due("it begins anew", () -> x.solve(0), 2);
    Check.due("the 100th round may be the last", () -> Scenes.half(64, 0.2096, 1000).solve(0), 100);
    DuctBalance slow = Scenes.half(64, 0.21004, 1000);
    Check.due("a 101st is not done", () -> slow.solve(0), -1);
    Check.state("not balanced, not solved", () -> slow.at(0, 0));
  }

  private static void smallChanges() {
    double small = 1.0 / 1048576;
    Check.due("a change of 2^-20 is not below it", () -> Scenes.weak(2 * small, 0).solve(0), 2);
    Check.due("a change just below", () -> Scenes.weak(2 * small * (1 - 1e-12), 0).solve(0), 1);
    DuctBalance x = Scenes.weak(3 * small, 1000);
    Check.due("the fan never blows", () -> x.solve(0), 2);
    Check.due("its pressure is held at 0", () -> x.at(0, 0), 0.0);
    Check.due("the next joint's", () -> x.at(1, 0), -0.75 * small);
    Check.due("the dead end's", () -> x.at(2, 0), -0.75 * small);
    Check.due("the flow to the fan is below 0 now", () -> x.of(0, 0), 0.75 * small);
  }

  private static void solveGates() {
    DuctBalance x = Scenes.half(64, 0, 128);
    Check.due("rounds of all times", () -> x.solve(0), 14);
    Check.due("gate", () -> x.draws(0, 0), 0.3333740234375);
    DuctBalance enough = Scenes.half(64, 0, 256);
    Check.due("as much as it needs", () -> enough.solve(0), 2);
    Check.due("leaves the gate", () -> enough.draws(0, 0), 1.0);
    DuctBalance thousandth = Scenes.half(62.5625, 0, 250);
    Check.due("a thousandth above is no reason to go on", () -> thousandth.solve(0), 2);
    Check.due("but closes the gate", () -> thousandth.draws(0, 0), 250 / 250.25);
    Check.due("so that it draws its need", () -> thousandth.draws(0, 1), 250 / 250.25 * 8 * 31.28125);
    Check.due("more is a reason", () -> Scenes.half(62.5626, 0, 250).solve(0), 4);
    Check.due("the fan's flow is kept from time to time", () -> Scenes.half(256, 0.125, 16).solve(0), 42 + 5);
    tenTimes();
  }

  private static void tenTimes() {
    DuctBalance x = new DuctBalance();
    x.joint();
    x.duct(0, 1, 8, 2);
    x.machine(1, 32);
    x.machine(1, 64);
    x.use(0, 0, true);
    x.use(0, 1, true);
    x.fan(256, 0.125);
    Check.due("ten times in all", () -> x.solve(0), 74);
    Check.due("the first gate", () -> x.draws(0, 0), 0.027141255204199372);
    Check.due("the second gate", () -> x.draws(1, 0), 0.054282510408398744);
    Check.due("the tenth time's gates count", () -> x.draws(0, 1), 32.0);
  }

  private static void solveFan() {
    DuctBalance x = new DuctBalance();
    x.joint();
    x.duct(0, 1, 1, 1);
    x.machine(1, 1000);
    x.use(0, 0, true);
    Check.due("the first fan", () -> x.solve(0), 12);
    Check.due("its pressure", () -> x.at(0, 0), -52.363635604220555);
    DuctBalance y = new DuctBalance();
    for (int joint = 1; joint <= 3; joint++) {
      y.joint();
    }
    y.duct(0, 1, 1, 3);
    y.duct(1, 2, 8, 3);
    y.duct(0, 3, 8, 1);
    y.machine(3, 16);
    y.use(0, 0, true);
    y.fan(128, 0.125);
    Check.due("no flow away from the fan", () -> y.solve(0), 67);
    Check.due("its pressure then", () -> y.at(0, 0), -126.06060650966027);
    Check.due("at the far end", () -> y.at(3, 0), -1.9393939463024659);
  }

  private static void solveCases() {
    DuctBalance x = Scenes.half(64, 0, 1000);
    x.machine(1, 1000);
    x.use(1, 1, true);
    x.use(2, 0, true);
    x.use(2, 1, true);
    x.solve(2);
    Check.due("both machines", () -> x.at(1, 0), -64.0 * 8 / 24);
    x.solve(1);
    Check.due("one machine", () -> x.at(1, 0), -32.0);
    Check.due("the other is not open", () -> x.draws(0, 0), 0.0);
    x.solve(3);
    Check.due("no machine", () -> x.at(1, 0), -64.0);
  }

  private static void whatUnsolves() {
    Check.state("a joint", () -> { DuctBalance x = Scenes.solvedHalf(); x.joint(); return x.at(0, 0); });
    Check.state("a duct", () -> { DuctBalance x = Scenes.solvedHalf(); x.duct(0, 1, 1, 1); return x.at(0, 0); });
    Check.state("a machine", () -> { DuctBalance x = Scenes.solvedHalf(); x.machine(1, 1); return x.at(0, 0); });
    Check.state("a use", () -> { DuctBalance x = Scenes.solvedHalf(); x.use(3, 0, false); return x.at(0, 0); });
    Check.state("a fan", () -> { DuctBalance x = Scenes.solvedHalf(); x.fan(64, 0); return x.at(0, 0); });
    Check.due("not a reading", () -> { DuctBalance x = Scenes.solvedHalf(); x.read(0, 1); return x.at(0, 0); }, -64.0);
    Check.due("not the list", () -> { DuctBalance x = Scenes.solvedHalf(); x.list(1, 1); return x.at(0, 0); }, -64.0);
    Check.due("not leaks", () -> { DuctBalance x = Scenes.solvedHalf(); x.fit(1); return x.at(0, 0); }, -64.0);
    Check.due("not a count", () -> { DuctBalance x = Scenes.solvedHalf(); x.count(0); return x.at(0, 0); }, -64.0);
    Check.state("a solve that fails", () -> {
      DuctBalance x = Scenes.half(64, 0.5, 1000);
      x.solve(1);
      x.at(0, 0);
      x.solve(0);
      return x.at(0, 0);
    });
  }

  private static void at() {
    DuctBalance x = Scenes.solvedHalf();
    Check.due("pressure at the fan", () -> x.at(0, 0), -64.0);
    Check.due("pressure", () -> x.at(1, 0), -32.0);
    Check.due("residual of the fan", () -> x.at(0, 1), 0.0);
    Check.due("residual", () -> x.at(1, 1), 0.0);
    DuctBalance gated = Scenes.half(64, 0, 128);
    gated.solve(0);
    Check.due("residual after the gate closed", () -> gated.at(1, 1), -0.04686927865255086);
    DuctBalance turned = new DuctBalance();
    turned.joint();
    turned.duct(1, 0, 1, 2);
    turned.machine(1, 128);
    turned.use(0, 0, true);
    turned.fan(64, 0);
    turned.solve(0);
    Check.due("residual of a turned duct", () -> turned.at(1, 1), -0.04686927865255086);
    Check.due("flow of a turned duct", () -> turned.of(0, 0), -gated.of(0, 0));
    for (int no : NO_NUMBERS) {
      Check.index("no joint", () -> x.at(no, 0));
      Check.index("no what", () -> x.at(0, no));
    }
    Check.index("joint 2", () -> x.at(2, 0));
    Check.index("what 2", () -> x.at(0, 2));
    x.joint();
    Check.index("no what before not solved", () -> x.at(0, 2));
    Check.index("no joint before not solved", () -> x.at(3, 0));
    Check.state("not solved", () -> x.at(0, 1));
    Check.due("a joint without a duct takes no round", () -> x.solve(0), 2);
    Check.due("it has no pressure", () -> x.at(2, 0), 0.0);
    Check.due("and no residual", () -> x.at(2, 1), 0.0);
    x.machine(2, 1);
    x.use(0, 1, true);
    Check.due("nor does a machine there", () -> x.solve(0), 2);
    Check.due("it has no pressure yet", () -> x.at(2, 0), 0.0);
  }

  private static void of() {
    DuctBalance x = Scenes.solvedHalf();
    Check.due("flow", () -> x.of(0, 0), -256.0);
    Check.due("speed", () -> x.of(0, 1), 64.0);
    Check.due("ease", () -> x.of(0, 2), 8.0);
    Check.due("leak", () -> x.of(0, 3), 0.0);
    for (int no : NO_NUMBERS) {
      Check.index("no duct", () -> x.of(no, 0));
      Check.index("no what", () -> x.of(0, no));
    }
    Check.index("duct 1", () -> x.of(1, 0));
    Check.index("what 4", () -> x.of(0, 4));
    x.joint();
    Check.index("no duct before not solved", () -> x.of(1, 0));
    Check.index("no what before not solved", () -> x.of(0, 4));
    for (int what = 0; what < 4; what++) {
      int asked = what;
      Check.state("not solved, what " + what, () -> x.of(0, asked));
    }
  }

  private static void draws() {
    DuctBalance x = Scenes.half(64, 0, 200);
    x.machine(1, 1);
    x.solve(0);
    Check.due("gate of one that is not used", () -> x.draws(1, 0), 0.0);
    Check.due("it draws nothing", () -> x.draws(1, 1), 0.0);
    double gate = x.draws(0, 0);
    double pressure = x.at(1, 0);
    Check.due("what it draws", () -> x.draws(0, 1), gate * 8 * (0 - pressure));
    for (int no : NO_NUMBERS) {
      Check.index("no machine", () -> x.draws(no, 0));
      Check.index("no what", () -> x.draws(0, no));
    }
    Check.index("machine 2", () -> x.draws(2, 0));
    Check.index("what 2", () -> x.draws(0, 2));
    x.joint();
    Check.index("no machine before not solved", () -> x.draws(2, 0));
    Check.index("no what before not solved", () -> x.draws(0, 2));
    Check.state("gate, not solved", () -> x.draws(0, 0));
    Check.state("draw, not solved", () -> x.draws(0, 1));
  }

  private static void keeps() {
    DuctBalance none = new DuctBalance();
    none.solve(0);
    Check.due("no ducts keep anything", () -> none.keeps(1000), true);
    DuctBalance x = Scenes.solvedHalf();
    Check.due("none is below 0", () -> x.keeps(0), true);
    Check.due("just so", () -> x.keeps(64), true);
    Check.due("just not", () -> x.keeps(64.001), false);
    Check.due("never", () -> x.keeps(INFINITE), false);
    Check.argument("below 0", () -> x.keeps(-0.001));
    x.joint();
    x.duct(1, 2, 1, 1);
    Check.argument("below 0 before not solved", () -> x.keeps(-1));
    Check.state("not solved", () -> x.keeps(0));
    x.solve(0);
    Check.due("the dead end", () -> x.of(1, 1), 0.0);
    Check.due("all of them", () -> x.keeps(1), false);
    Check.due("all of them are above nothing", () -> x.keeps(0), true);
  }

  private static void list() {
    DuctBalance x = new DuctBalance();
    double[] wrong = {0.1249, 100.01, 0, -1, NAN, INFINITE};
    for (double no : wrong) {
      Check.argument("width " + no, () -> x.list(no, 1));
    }
    Check.argument("cents below 0", () -> x.list(1, -1));
    Check.argument("cents above a million", () -> x.list(1, 1000001));
    Check.argument("the least cents", () -> x.list(1, Integer.MIN_VALUE));
    Check.due("nothing came of it", () -> x.count(3), 0);
    Check.due("least", () -> x.list(0.125, 0), 0);
    Check.due("most", () -> x.list(100, 1000000), 1);
    for (int number = 2; number < 6; number++) {
      int due = number;
      Check.due("size " + number, () -> x.list(1, 1), due);
    }
    Check.argument("a seventh: first a wrong number", () -> x.list(0, 1));
    Check.state("a seventh: then no room", () -> x.list(1, 1));
    Check.due("6 sizes", () -> x.count(3), 6);
  }

  private static void size() {
    DuctBalance x = Scenes.half(60, 0, 256);
    Check.index("no case before no list", () -> x.size(4));
    Check.state("no list", () -> x.size(0));
    x.list(100, 7);
    x.list(2, 5);
    x.list(1, 5);
    x.list(4, 5);
    Check.due("just enough", () -> x.size(0), 1);
    Check.due("its width", () -> x.of(0, 2), 8.0);
    Check.due("fifteen sixteenths of the need", () -> x.draws(0, 1), 240.0);
    for (int no : NO_NUMBERS) {
      Check.index("no case", () -> x.size(no));
    }
    Check.due("a wrong case changes nothing", () -> x.draws(0, 1), 240.0);
    Check.due("nothing needed", () -> x.size(1), 1);
    x.list(0.5, 4);
    Check.due("a cheaper one", () -> x.size(1), 4);
    x.fan(59, 0);
    Check.due("the next in order", () -> x.size(0), 3);
    Check.due("its ease", () -> x.of(0, 2), 64.0);
    x.fan(32, 0);
    Check.due("the dearest", () -> x.size(0), 0);
    x.duct(0, 1, 1, 2);
    Check.due("a duct told later has a width of its own", () -> x.solve(0), 2);
    Check.due("its own ease", () -> x.of(1, 2), 8.0);
    Check.due("the first one's ease", () -> x.of(0, 2), 1000000.0);
    Check.due("two ducts", () -> x.size(0), 3);
    Check.due("all ducts get the width", () -> x.of(1, 2), 64.0);
  }

  private static void sizeLeavesSolved() {
    DuctBalance x = Scenes.half(60, 0, 1000);
    x.list(2, 5);
    x.list(1, 4);
    Check.due("too little air", () -> x.size(0), -1);
    Check.due("but balanced, with the last width", () -> x.of(0, 2), 8.0);
    Check.due("and solved", () -> x.draws(0, 1), 240.0);
    DuctBalance slow = Scenes.half(60, 0.5, 100);
    slow.list(2, 1);
    slow.solve(1);
    Check.due("not balanced", () -> slow.size(0), -1);
    Check.state("and not solved", () -> slow.at(0, 0));
    slow.list(0.5, 9);
    Check.due("the last one is balanced", () -> slow.size(0), -1);
    Check.due("it is solved", () -> slow.of(0, 2), 0.125);
    DuctBalance bare = new DuctBalance();
    bare.joint();
    bare.machine(1, 1);
    bare.list(1, 1);
    Check.due("without ducts nobody needs any", () -> bare.size(0), 0);
    bare.use(0, 0, true);
    Check.due("without ducts nobody gets any", () -> bare.size(0), -1);
    Check.due("it is balanced all the same", () -> bare.at(0, 0), -64.0);
  }

  private static void read() {
    DuctBalance x = new DuctBalance();
    x.joint();
    x.duct(0, 1, 1, 2);
    for (int no : NO_NUMBERS) {
      Check.index("no duct", () -> read(x, no, 1));
    }
    Check.index("duct 1 before a wrong number", () -> read(x, 1, -1));
    double[] wrong = {-0.001, 10000.01, NAN, INFINITE};
    for (double no : wrong) {
      Check.argument("reading " + no, () -> read(x, 0, no));
    }
    x.solve(0);
    Check.due("no reading came of it", () -> x.fit(0), 0.0);
    Check.due("most", () -> read(x, 0, 10000), "done");
    Check.due("the most counts", () -> x.fit(0), 100000000.0);
    Check.due("least", () -> read(x, 0, 0), "done");
    Check.due("the latest reading counts", () -> x.fit(0), 0.0);
    x.read(0, 3);
    Check.argument("a wrong one", () -> read(x, 0, -1));
    Check.due("a wrong one changes nothing", () -> x.fit(0), 9.0);
  }

  private static void fit() {
    DuctBalance x = Scenes.solvedHalf();
    x.duct(0, 1, 1, 2);
    x.solve(0);
    Check.due("no readings", () -> x.fit(50), 0.0);
    x.fan(48, 0);
    x.solve(0);
    Check.due("flow", () -> x.of(1, 0), -128.0);
    x.read(1, 136);
    Check.due("no rounds", () -> x.fit(0), 64.0);
    Check.due("one round", () -> x.fit(1), 16.0);
    Check.due("half of it", () -> x.of(1, 3), 4.0);
    Check.due("two more", () -> x.fit(2), 1.0);
    Check.due("leak", () -> x.of(1, 3), 7.0);
    Check.due("no leak without a reading", () -> x.of(0, 3), 0.0);
    x.read(0, 129);
    Check.due("both", () -> x.fit(0), 2.0);
    x.read(0, 100);
    Check.due("not below 0", () -> x.fit(1), 784.25);
    Check.due("no leak", () -> x.of(0, 3), 0.0);
    Check.argument("rounds below 0", () -> x.fit(-1));
    Check.argument("51 rounds", () -> x.fit(51));
    Check.argument("no end of rounds", () -> x.fit(Integer.MAX_VALUE));
    Check.due("50 rounds", () -> x.fit(50), 784.0);
    x.fan(1, 0);
    Check.argument("wrong rounds before not solved", () -> x.fit(51));
    Check.state("not solved", () -> x.fit(0));
  }

  private static void fitFollowsTheFlow() {
    DuctBalance x = Scenes.solvedHalf();
    x.read(0, 264);
    x.fit(1);
    x.fan(32, 0);
    x.solve(0);
    Check.due("leaks stay", () -> x.of(0, 3), 4.0);
    Check.due("the flow is what it is now", () -> x.fit(0), 132.0 * 132.0);
    Check.due("and the leak goes on from where it was", () -> x.fit(1), 66.0 * 66.0);
    x.list(1, 1);
    x.size(1);
    Check.due("leaks stay in new widths", () -> x.of(0, 3), 70.0);
  }

  private static void count() {
    DuctBalance x = Scenes.half(64, 0, 1000);
    x.joint();
    x.joint();
    x.duct(1, 2, 1, 1);
    x.list(1, 1);
    x.list(1, 1);
    x.list(1, 1);
    Check.due("joints", () -> x.count(0), 4);
    Check.due("ducts", () -> x.count(1), 2);
    Check.due("machines", () -> x.count(2), 1);
    Check.due("sizes", () -> x.count(3), 3);
    for (int no : NO_NUMBERS) {
      Check.index("no what", () -> x.count(no));
    }
    Check.index("what 4", () -> x.count(4));
  }
}
