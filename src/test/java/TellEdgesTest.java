/**
 * Each sentence of the document that names a boundary of what may be told or asked: the last value that is allowed,
 * the first that is not, the empty object and the full one. That refused calls change nothing, in objects of every
 * state, is RefusedTest's.
 */
public final class TellEdgesTest {
  private static final double NAN = 0.0 / 0.0;
  private static final double INFINITE = 1.0 / 0.0;
  // CHANGE is small below it
  private static final double SMALL = 1.0 / 1048576;

  private interface Tell {
    void tell(double value);
  }

  private interface Change {
    void make(DuctBalance x);
  }

  private interface Ask {
    double answer(double value);
  }

  public static void main(String[] args) {
    jointsAre0To9();
    ductsGoToAnotherJoint();
    machinesStandNotAt0();
    lengthAndWidthAre0125To100();
    needIs0125To1000();
    strengthAndFallAre0To1000();
    fallIsAQuarterAtFirst();
    casesAre0To3();
    noMachineIsUsedAtFirst();
    onlyThoseUsedAreOpen();
    leastSpeedIsNotBelow0();
    listHas6Sizes();
    centsAre0To1000000();
    readingsAre0To10000();
    fitHas0To50Rounds();
    whatsOfEachQuestion();
    onlySomeTellingUnsolves();
    emptyObject();
    fullObject();
    allAtOneJoint();
    objectsLast512Calls();
    Check.end("TellEdgesTest");
  }

  private static Object done(Tell tell, double value) {
    tell.tell(value);
    return "done";
  }

  private static void bounds(String what, double least, double most, Tell tell) {
    for (double yes : new double[] {least, Math.nextUp(least), (least + most) / 2, Math.nextDown(most), most}) {
      Check.due(what + " " + yes, () -> done(tell, yes), "done");
    }
    for (double no : new double[] {Math.nextDown(least), Math.nextUp(most), -most, INFINITE, -INFINITE, NAN}) {
      Check.argument(what + " " + no, () -> done(tell, no));
    }
  }

  private static void ends(String what, Ask ask, double least, double most, double[] due) {
    Check.due("the least " + what + " counts", () -> ask.answer(least), due[0]);
    Check.due("the most " + what + " counts", () -> ask.answer(most), due[1]);
  }

  private static void jointsAre0To9() {
    DuctBalance x = new DuctBalance();
    Check.index("joint 1 is not there at first", () -> x.machine(1, 1));
    for (int number = 1; number <= 9; number++) {
      Check.due("joint " + number, x::joint, number);
    }
    for (int time = 0; time < 3; time++) {
      Check.state("joint 10, asked for again", x::joint);
      Check.due("there are 10", () -> x.count(0), 10);
    }
    Check.due("a duct to joint 9", () -> x.duct(0, 9, 1, 2), 0);
    Check.due("a duct from joint 9", () -> x.duct(9, 0, 1, 2), 1);
    Check.due("a machine at joint 9", () -> x.machine(9, 1000), 0);
    Check.index("a duct to joint 10", () -> x.duct(0, 10, 1, 1));
    Check.index("a duct from joint 10", () -> x.duct(10, 0, 1, 1));
    Check.index("a machine at joint 10", () -> x.machine(10, 1));
    x.use(0, 0, true);
    x.fan(64, 0);
    x.solve(0);
    Check.due("joint 9 takes part", () -> x.at(9, 0), -64.0 * 16 / 24);
    Check.index("joint 10 is none", () -> x.at(10, 0));
    Check.index("joint -1 is none", () -> x.at(-1, 0));
  }

  private static void ductsGoToAnotherJoint() {
    DuctBalance x = new DuctBalance();
    Check.argument("joint 0 alone has none to go to", () -> x.duct(0, 0, 1, 1));
    Check.index("nor is there a joint 1", () -> x.duct(0, 1, 1, 1));
    x.joint();
    Check.argument("from 0 to 0", () -> x.duct(0, 0, 1, 1));
    Check.argument("from 1 to 1", () -> x.duct(1, 1, 1, 1));
    Check.due("from 0 to 1", () -> x.duct(0, 1, 1, 1), 0);
    Check.due("from 1 to 0", () -> x.duct(1, 0, 1, 1), 1);
    Check.due("the same once more", () -> x.duct(0, 1, 1, 1), 2);
    for (int number = 3; number < 16; number++) {
      int due = number;
      Check.due("duct " + number, () -> x.duct(0, 1, 1, 1), due);
    }
    for (int time = 0; time < 3; time++) {
      Check.state("duct 16, asked for again", () -> x.duct(0, 1, 1, 1));
      Check.due("there are 16", () -> x.count(1), 16);
    }
    x.solve(0);
    Check.due("duct 15 is there", () -> x.of(15, 2), 1.0);
    Check.index("duct 16 is none", () -> x.of(16, 2));
    Check.index("nor to be read", () -> done(v -> x.read(16, v), 1));
  }

  private static void machinesStandNotAt0() {
    DuctBalance x = new DuctBalance();
    Check.argument("at joint 0 of an empty object", () -> x.machine(0, 1));
    x.joint();
    Check.argument("at joint 0", () -> x.machine(0, 1));
    for (int number = 0; number < 8; number++) {
      int due = number;
      Check.due("machine " + number + " at joint 1", () -> x.machine(1, 1), due);
    }
    for (int time = 0; time < 3; time++) {
      Check.state("machine 8, asked for again", () -> x.machine(1, 1));
      Check.due("there are 8", () -> x.count(2), 8);
    }
    x.solve(0);
    Check.due("machine 7 is there", () -> x.draws(7, 0), 0.0);
    Check.index("machine 8 is none", () -> x.draws(8, 0));
    Check.index("nor to be used", () -> done(v -> x.use(0, 8, true), 0));
  }

  private static double easeOf(double length, double width) {
    DuctBalance x = new DuctBalance();
    x.joint();
    x.duct(0, 1, length, width);
    x.solve(0);
    return x.of(0, 2);
  }

  private static void lengthAndWidthAre0125To100() {
    bounds("length", 0.125, 100, v -> easeOf(v, 1));
    bounds("width", 0.125, 100, v -> easeOf(1, v));
    ends("length", v -> easeOf(v, 1), 0.125, 100, new double[] {8.0, 0.01});
    ends("width", v -> easeOf(1, v), 0.125, 100, new double[] {0.001953125, 1000000.0});
    Check.due("the least ease", () -> easeOf(100, 0.125), 0.001953125 / 100);
    Check.due("the most ease", () -> easeOf(0.125, 100), 8000000.0);
    Check.due("from the left to the right", () -> easeOf(3, 1.1), 1.1 * 1.1 * 1.1 / 3);
  }

  private static boolean isNear(double x, double due) {
    return Math.abs(x - due) * 1000 <= due;
  }

  private static double drawOf(double need) {
    DuctBalance x = Scenes.half(1000, 0, need);
    x.solve(0);
    return x.draws(0, 1);
  }

  private static void needIs0125To1000() {
    bounds("need", 0.125, 1000, TellEdgesTest::drawOf);
    // with its gate open it would draw 4000
    Check.due("the least need counts", () -> isNear(drawOf(0.125), 0.125), true);
    Check.due("the most need counts", () -> isNear(drawOf(1000), 1000), true);
  }

  private static double pressureAtFan(double strength, double fall) {
    DuctBalance x = Scenes.half(strength, fall, 1000);
    x.solve(1);
    return x.at(0, 0);
  }

  private static void strengthAndFallAre0To1000() {
    bounds("strength", 0, 1000, v -> pressureAtFan(v, 0));
    // weak enough to come to rest however steep the fan is
    bounds("fall", 0, 1000, v -> Scenes.weak(SMALL, v).solve(0));
    ends("strength", v -> pressureAtFan(v, 0), 0, 1000, new double[] {0.0, -1000.0});
    Check.due("0 from below is 0", () -> pressureAtFan(-0.0, -0.0), 0.0);
    Check.due("the least fall is none", () -> Scenes.half(64, 0, 1000).solve(0), 2);
    Check.due("the most fall is too much", () -> Scenes.half(64, 1000, 1000).solve(0), -1);
  }

  private static void fallIsAQuarterAtFirst() {
    DuctBalance x = new DuctBalance();
    x.joint();
    x.duct(0, 1, 1, 1);
    x.machine(1, 1000);
    x.use(0, 0, true);
    Check.due("rounds with the first fan", () -> x.solve(0), 12);
    Check.due("its pressure", () -> x.at(0, 0), -52.363635604220555);
    x.fan(64, 0.25);
    Check.due("the same fan told", () -> x.solve(0), 12);
    Check.due("the same pressure", () -> x.at(0, 0), -52.363635604220555);
  }

  private static void casesAre0To3() {
    DuctBalance x = Scenes.half(64, 0, 1000);
    // 4, 32 and -32 are those that a shift by their number would take for another
    for (int no : new int[] {-1, 4, 32, -32, 31, Integer.MIN_VALUE, Integer.MAX_VALUE}) {
      Check.index("use in case " + no, () -> done(v -> x.use(no, 0, false), 0));
      Check.index("solve in case " + no, () -> x.solve(no));
      Check.index("size in case " + no, () -> x.size(no));
    }
    for (int caseOf = 0; caseOf < 4; caseOf++) {
      int asked = caseOf;
      Check.due("use in case " + asked, () -> done(v -> x.use(asked, 0, true), 0), "done");
      Check.due("solve in case " + asked, () -> x.solve(asked), 2);
      Check.due("it is used in case " + asked, () -> x.draws(0, 1), 256.0);
      Check.due("no use in case " + asked, () -> done(v -> x.use(asked, 0, false), 0), "done");
      x.solve(asked);
      Check.due("it is not used in case " + asked, () -> x.draws(0, 1), 0.0);
    }
  }

  private static void noMachineIsUsedAtFirst() {
    DuctBalance x = Scenes.half(64, 0, 1000);
    x.machine(1, 1000);
    for (int caseOf = 0; caseOf < 4; caseOf++) {
      x.solve(caseOf);
      Check.due("a new one is not used in case " + caseOf, () -> x.draws(1, 0), 0.0);
      double due = caseOf == 0 ? 1 : 0;
      Check.due("the other in case 0 alone, asked in " + caseOf, () -> x.draws(0, 0), due);
    }
  }

  private static void onlyThoseUsedAreOpen() {
    DuctBalance x = Scenes.half(64, 0, 1000);
    for (int number = 1; number < 8; number++) {
      x.machine(1, 1000);
    }
    x.use(0, 7, true);
    x.use(1, 3, true);
    x.solve(0);
    for (int number = 0; number < 8; number++) {
      int asked = number;
      Check.due("gate " + number, () -> x.draws(asked, 0), asked == 0 || asked == 7 ? 1.0 : 0.0);
    }
    Check.due("two draw", () -> x.at(1, 0), -64.0 * 8 / 24);
    x.solve(1);
    for (int number = 0; number < 8; number++) {
      int asked = number;
      Check.due("gate in case 1 " + number, () -> x.draws(asked, 0), asked == 3 ? 1.0 : 0.0);
    }
  }

  private static void leastSpeedIsNotBelow0() {
    DuctBalance x = Scenes.solvedHalf();
    Check.argument("the first below 0", () -> x.keeps(-Double.MIN_VALUE));
    Check.argument("no end below 0", () -> x.keeps(-INFINITE));
    Check.due("0", () -> x.keeps(0), true);
    Check.due("0 from below is 0", () -> x.keeps(-0.0), true);
    Check.due("just below the speed", () -> x.keeps(Math.nextDown(64.0)), true);
    Check.due("the speed", () -> x.keeps(64), true);
    Check.due("just above the speed", () -> x.keeps(Math.nextUp(64.0)), false);
    Check.due("no end", () -> x.keeps(INFINITE), false);
    for (int slow = 0; slow < 3; slow++) {
      DuctBalance y = new DuctBalance();
      y.joint();
      for (int duct = 0; duct < 3; duct++) {
        y.duct(0, 1, duct == slow ? 2 : 1, 2);
      }
      y.machine(1, 1000);
      y.use(0, 0, true);
      y.fan(64, 0);
      y.solve(0);
      double least = y.of(slow, 1);
      Check.due("the slowest one counts, " + slow, () -> y.keeps(least), true);
      Check.due("it alone, " + slow, () -> y.keeps(Math.nextUp(least)), false);
    }
    DuctBalance none = new DuctBalance();
    none.solve(0);
    Check.due("without a duct all have it", () -> none.keeps(INFINITE), true);
  }

  private static void listHas6Sizes() {
    DuctBalance x = Scenes.solvedHalf();
    Check.due("it is empty at first", () -> x.count(3), 0);
    for (int caseOf = 0; caseOf < 4; caseOf++) {
      int asked = caseOf;
      Check.state("no size of an empty list", () -> x.size(asked));
    }
    Check.due("that changes nothing", () -> x.at(1, 0), -32.0);
    for (int number = 0; number < 6; number++) {
      int due = number;
      Check.due("size " + number, () -> x.list(1, 1), due);
    }
    for (int time = 0; time < 3; time++) {
      Check.state("size 6, asked for again", () -> x.list(1, 1));
      Check.due("there are 6", () -> x.count(3), 6);
    }
    bounds("width in a list", 0.125, 100, v -> new DuctBalance().list(v, 1));
    ends("width in a list", TellEdgesTest::easeOfListed, 0.125, 100, new double[] {0.001953125, 1000000.0});
  }

  private static double easeOfListed(double width) {
    DuctBalance x = Scenes.solvedHalf();
    x.list(width, 1);
    x.size(1);
    return x.of(0, 2);
  }

  private static void centsAre0To1000000() {
    for (int no : new int[] {-1, 1000001, Integer.MIN_VALUE, Integer.MAX_VALUE}) {
      Check.argument("cents " + no, () -> new DuctBalance().list(1, no));
    }
    for (int yes : new int[] {0, 1, 999999, 1000000}) {
      Check.due("cents " + yes, () -> new DuctBalance().list(1, yes), 0);
    }
    DuctBalance x = Scenes.solvedHalf();
    x.list(1, 1000000);
    x.list(2, 999999);
    Check.due("a cent less than the most", () -> x.size(1), 1);
    x.list(3, 1);
    Check.due("a cent", () -> x.size(1), 2);
    x.list(4, 0);
    Check.due("no cents", () -> x.size(1), 3);
  }

  private static double sumFor(double reading) {
    DuctBalance x = Scenes.solvedHalf();
    x.read(0, reading);
    return x.fit(0);
  }

  private static void readingsAre0To10000() {
    bounds("reading", 0, 10000, TellEdgesTest::sumFor);
    ends("reading", TellEdgesTest::sumFor, 0, 10000, new double[] {256.0 * 256, 9744.0 * 9744});
    Check.due("a reading of the flow", () -> sumFor(256), 0.0);
    DuctBalance x = Scenes.solvedHalf();
    x.read(0, 10000);
    x.read(0, 0);
    Check.due("a reading of 0 is the latest one", () -> x.fit(0), 256.0 * 256);
  }

  private static void fitHas0To50Rounds() {
    for (int no : new int[] {-1, 51, Integer.MIN_VALUE, Integer.MAX_VALUE}) {
      Check.argument("rounds " + no, () -> Scenes.solvedHalf().fit(no));
      Check.argument("rounds before not solved " + no, () -> Scenes.half(64, 0, 1).fit(no));
    }
    double left = 1024;
    for (int rounds = 0; rounds <= 50; rounds++) {
      DuctBalance x = Scenes.solvedHalf();
      x.read(0, 256 + 1024);
      double due = left * left;
      int asked = rounds;
      Check.due("rounds " + rounds, () -> x.fit(asked), due);
      double leak = 1024 - left;
      Check.due("leak after rounds " + rounds, () -> x.of(0, 3), leak);
      left = left / 2;
    }
  }

  private static void whatsOfEachQuestion() {
    DuctBalance x = Scenes.solved();
    for (int no : new int[] {-1, 2, 3, 4, Integer.MIN_VALUE, Integer.MAX_VALUE}) {
      Check.index("at what " + no, () -> x.at(0, no));
      Check.index("draws what " + no, () -> x.draws(0, no));
    }
    for (int no : new int[] {-1, 4, 5, Integer.MIN_VALUE, Integer.MAX_VALUE}) {
      Check.index("of what " + no, () -> x.of(0, no));
      Check.index("count what " + no, () -> x.count(no));
    }
    Check.due("at's last what is the residual", () -> x.at(0, 1), 0.0);
    Check.due("of's last what is the leak", () -> x.of(1, 3), 0.0);
    Check.due("draws' last what is the draw", () -> x.draws(2, 1), 0.0);
    Check.due("count's last what is the sizes", () -> x.count(3), 3);
  }

  private static void telling(String what, boolean leavesSolved, Change change) {
    DuctBalance x = Scenes.solved();
    change.make(x);
    if (leavesSolved) {
      Check.due(what + " leaves it solved", () -> x.keeps(0), true);
      Check.due(what + " leaves its pressures", () -> x.at(1, 0), Scenes.solved().at(1, 0));
    } else {
      unsolved(what, x);
    }
  }

  private static void unsolved(String what, DuctBalance x) {
    for (int which = 0; which < 4; which++) {
      int asked = which;
      Check.state(what + ": of " + asked, () -> x.of(0, asked));
      Check.state(what + ": at or draws " + asked, () -> asked < 2 ? x.at(0, asked) : x.draws(0, asked - 2));
    }
    Check.state(what + ": keeps", () -> x.keeps(0));
    Check.state(what + ": fit", () -> x.fit(0));
  }

  private static void onlySomeTellingUnsolves() {
    telling("a joint", false, x -> x.joint());
    telling("a duct", false, x -> x.duct(0, 1, 1, 1));
    telling("a machine", false, x -> x.machine(1, 1));
    telling("a use", false, x -> x.use(2, 2, true));
    telling("a use that is so already", false, x -> x.use(1, 0, true));
    telling("a fan", false, x -> x.fan(1, 1));
    telling("a fan that is so already", false, x -> x.fan(100, 0.0625));
    telling("a reading", true, x -> x.read(1, 1));
    telling("a size of the list", true, x -> x.list(1, 1));
    telling("leaks", true, x -> x.fit(50));
    telling("a count", true, x -> x.count(0));
    whatSolves();
  }

  private static void whatSolves() {
    DuctBalance x = Scenes.toldSince();
    x.read(0, 1);
    x.list(1, 1);
    unsolved("readings and the list solve nothing", x);
    x.solve(1);
    Check.due("a solve does", () -> x.keeps(0), true);
    x.fan(100, 0.0625);
    x.size(1);
    Check.due("a size does", () -> x.keeps(0), true);
  }

  private static void emptyObject() {
    DuctBalance x = new DuctBalance();
    unsolvedEmpty(x);
    for (int caseOf = 0; caseOf < 4; caseOf++) {
      int asked = caseOf;
      Check.due("one round in case " + caseOf, () -> x.solve(asked), 1);
      Check.state("no list in case " + caseOf, () -> x.size(asked));
    }
    Check.due("STRENGTH is 64 at first", () -> x.at(0, 0), -64.0);
    Check.due("no residual", () -> x.at(0, 1), 0.0);
    Check.index("no duct", () -> x.of(0, 0));
    Check.index("no duct to read", () -> done(v -> x.read(0, v), 1));
    Check.index("no machine", () -> x.draws(0, 0));
    Check.index("no machine to use", () -> done(v -> x.use(0, 0, true), 1));
    Check.due("no duct is too slow", () -> x.keeps(1), true);
    Check.due("no reading is missed", () -> x.fit(50), 0.0);
    x.list(1, 1);
    Check.due("the only size", () -> x.size(0), 0);
    Check.due("solved by it", () -> x.at(0, 0), -64.0);
  }

  private static void unsolvedEmpty(DuctBalance x) {
    int[] due = {1, 0, 0, 0};
    for (int what = 0; what < 4; what++) {
      int asked = what;
      Check.due("count " + what, () -> x.count(asked), due[asked]);
    }
    Check.state("at, not solved", () -> x.at(0, 0));
    Check.state("residual, not solved", () -> x.at(0, 1));
    Check.state("keeps, not solved", () -> x.keeps(0));
    Check.state("fit, not solved", () -> x.fit(0));
  }

  private static void fullObject() {
    DuctBalance x = Scenes.full();
    int[] due = {10, 16, 8, 6};
    int[] sizes = {0, 4, 2, 4};
    for (int what = 0; what < 4; what++) {
      int asked = what;
      Check.due("full: count " + what, () -> x.count(asked), due[asked]);
    }
    for (int caseOf = 0; caseOf < 4; caseOf++) {
      int asked = caseOf;
      Check.due("full: solved in case " + caseOf, () -> x.solve(asked) > 0, true);
      Check.due("full: sized in case " + caseOf, () -> x.size(asked), sizes[asked]);
    }
    Check.state("full: an eleventh joint", x::joint);
    Check.state("full: a 17th duct", () -> x.duct(0, 1, 1, 1));
    Check.state("full: a ninth machine", () -> x.machine(1, 1));
    Check.state("full: a seventh size", () -> x.list(1, 1));
  }

  private static void allAtOneJoint() {
    DuctBalance x = new DuctBalance();
    PlainModel y = new PlainModel();
    x.joint();
    y.joint();
    for (int duct = 0; duct < 16; duct++) {
      x.duct(duct % 2, 1 - duct % 2, 1 + duct * 0.5, 1.1);
      y.duct(duct % 2, 1 - duct % 2, 1 + duct * 0.5, 1.1);
    }
    for (int machine = 0; machine < 8; machine++) {
      x.machine(1, 10 + machine);
      y.machine(1, 10 + machine);
      x.use(3, machine, true);
      y.use(3, machine, true);
    }
    x.fan(64, 0);
    y.fan(64, 0);
    Check.due("rounds", () -> x.solve(3), y.solve(3));
    Check.due("pressure", () -> x.at(1, 0), y.at(1, 0));
    Check.due("residual", () -> x.at(1, 1), y.at(1, 1));
    for (int machine = 0; machine < 8; machine++) {
      int asked = machine;
      Check.due("gate " + machine, () -> x.draws(asked, 0), y.draws(asked, 0));
      Check.due("draw " + machine, () -> x.draws(asked, 1), y.draws(asked, 1));
    }
    for (int duct = 0; duct < 16; duct++) {
      int asked = duct;
      Check.due("flow " + duct, () -> x.of(asked, 0), y.of(asked, 0));
      Check.due("speed " + duct, () -> x.of(asked, 1), y.of(asked, 1));
    }
  }

  private static void objectsLast512Calls() {
    DuctBalance x = new DuctBalance();
    x.joint();
    x.duct(0, 1, 1, 2);
    x.machine(1, 1000);
    x.use(0, 0, true);
    x.fan(64, 0);
    for (int call = 6; call < 512; call++) {
      int asked = call % 2;
      Check.due("call " + call, () -> x.solve(asked), 2);
    }
    Check.due("call 512", () -> x.at(1, 0), -64.0);
  }
}
