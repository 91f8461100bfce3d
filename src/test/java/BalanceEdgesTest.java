import java.util.Arrays;
import java.util.List;

/**
 * Each sentence of the document that names a boundary of what is reckoned: when rounds end and gates close, which size
 * is found, and what an amount may not be below or above.
 */
public final class BalanceEdgesTest {
  // CHANGE is small below it
  private static final double SMALL = 1.0 / 1048576;

  public static void main(String[] args) {
    pressureOfTheFanIsNotAbove0();
    flowIs0InTheFirstRound();
    solvedBeginsAnew();
    jointsWithoutADuctAreLeftOut();
    flowToJoint0IsNotBelow0();
    changeIsOfTheOtherJointsAlone();
    changeIsBelowIt();
    roundsAre100ThisTime();
    drawIsAboveItsNeed();
    drawIsAboveByMoreThanAThousandth();
    timesAre10InAll();
    residualIsNotOfJoint0();
    drawsAre0IfNotOpen();
    sizesGoInTheOrderOfCents();
    sizeDrawsAtLeast();
    sizeAsksOnlyMachinesInUse();
    sizeIsBalanced();
    sizeIsAsSolvedThen();
    leakIs0AtFirst();
    leakIsNotBelow0();
    sumIsOverReadDucts();
    Check.end("BalanceEdgesTest");
  }

  private static void pressureOfTheFanIsNotAbove0() {
    // half the strength comes as flow in the first round, so that a FALL of 2 takes all of it in the second
    double strength = 3 * SMALL;
    double hair = 1.0 / 1099511627776L;
    DuctBalance below = Scenes.weak(strength, 2 - hair);
    Check.due("two rounds", () -> below.solve(0), 2);
    Check.due("a hair below 0 is as it is", () -> below.at(0, 0), -strength * hair / 2);
    DuctBalance just = Scenes.weak(strength, 2);
    Check.due("two rounds at 0", () -> just.solve(0), 2);
    Check.due("just 0", () -> just.at(0, 0), 0.0);
    DuctBalance above = Scenes.weak(strength, 2 + hair);
    Check.due("two rounds above", () -> above.solve(0), 2);
    Check.due("a hair above 0 is 0", () -> above.at(0, 0), 0.0);
    DuctBalance far = Scenes.weak(strength, 1000);
    Check.due("two rounds far above", () -> far.solve(0), 2);
    Check.due("far above is 0", () -> far.at(0, 0), 0.0);
  }

  private static void flowIs0InTheFirstRound() {
    DuctBalance x = Scenes.weak(SMALL, 1000);
    Check.due("one round", () -> x.solve(0), 1);
    Check.due("without a flow", () -> x.at(0, 0), -SMALL);
    Check.due("one round again", () -> x.solve(0), 1);
    Check.due("without the flow from before", () -> x.at(0, 0), -SMALL);
    DuctBalance y = Scenes.half(64, 0.125, 1000);
    int rounds = y.solve(0);
    Check.due("more rounds than two", () -> rounds > 2, true);
    Check.due("as many again", () -> y.solve(0), rounds);
    Check.due("but the flow from before when rounds go on", () -> Scenes.half(256, 0.125, 16).solve(0), 42 + 5);
    DuctBalance failing = Scenes.half(64, 0.5, 1000);
    failing.solve(0);
    Check.due("nor the flow of a time that failed", () -> failing.solve(1), Scenes.half(64, 0.5, 1000).solve(1));
  }

  private static void solvedBeginsAnew() {
    DuctBalance x = Scenes.chain(1.5, 4);
    Check.due("rounds of all times", () -> x.solve(0), 229);
    List<String> first = Look.now(x);
    Check.due("as many again", () -> x.solve(0), 229);
    Check.sameLines("and the same answers", Look.now(x), first);
    x.solve(2);
    Check.due("gates of others are 0", () -> x.draws(0, 0), 0.0);
    x.solve(0);
    Check.sameLines("the same after another case", Look.now(x), first);
  }

  private static void jointsWithoutADuctAreLeftOut() {
    DuctBalance x = Scenes.half(64, 0, 1000);
    x.joint();
    x.machine(2, 1);
    x.use(0, 1, true);
    Check.due("rounds as without it", () -> x.solve(0), 2);
    Check.due("no pressure", () -> x.at(2, 0), 0.0);
    Check.due("its machine's gate is open", () -> x.draws(1, 0), 1.0);
    Check.due("but draws nothing", () -> x.draws(1, 1), 0.0);
    Check.due("no residual", () -> x.at(2, 1), 0.0);
    x.duct(2, 1, 1, 1);
    x.solve(0);
    Check.due("with a duct it takes part", () -> x.at(2, 0) < 0, true);
  }

  private static void flowToJoint0IsNotBelow0() {
    // a wide duct swings back and sends air from the fan: were that a flow, the fan would blow with more than it has
    DuctBalance y = new DuctBalance();
    y.joint();
    y.joint();
    y.joint();
    y.duct(0, 1, 1, 3);
    y.duct(1, 2, 8, 3);
    y.duct(0, 3, 8, 1);
    y.machine(3, 16);
    y.use(0, 0, true);
    y.fan(128, 0.125);
    Check.due("no flow away from the fan", () -> y.solve(0), 67);
    Check.due("its pressure then", () -> y.at(0, 0), -126.06060650966027);
  }

  private static void changeIsOfTheOtherJointsAlone() {
    DuctBalance empty = new DuctBalance();
    empty.fan(1000, 0);
    Check.due("joint 0 alone changes in no round", () -> empty.solve(0), 1);
    empty.joint();
    Check.due("nor does a joint without a duct", () -> empty.solve(0), 1);
    Check.due("though the fan blows", () -> empty.at(0, 0), -1000.0);
  }

  private static void changeIsBelowIt() {
    Check.due("a change of 2^-20 is not below it", () -> Scenes.weak(2 * SMALL, 0).solve(0), 2);
    Check.due("the next one below is", () -> Scenes.weak(Math.nextDown(2 * SMALL), 0).solve(0), 1);
    Check.due("the next one above is not", () -> Scenes.weak(Math.nextUp(2 * SMALL), 0).solve(0), 2);
    Check.due("no change is", () -> Scenes.weak(0, 0).solve(0), 1);
    // the second joint's change is the greater one
    DuctBalance x = Scenes.weak(Math.nextDown(2 * SMALL), 0);
    x.duct(0, 2, 1, 1);
    Check.due("the greatest of all joints counts", () -> x.solve(0), 2);
  }

  private static void roundsAre100ThisTime() {
    Check.due("99 rounds", () -> Scenes.chain(3.91, 1000).solve(0), 99);
    Check.due("the 100th may be the last", () -> Scenes.chain(3.92, 1000).solve(0), 100);
    DuctBalance slow = Scenes.chain(3.93, 1000);
    Check.due("a 101st is not done", () -> slow.solve(0), -1);
    Check.state("then it is not solved", () -> slow.at(0, 0));
    Check.due("more than 100 in all", () -> Scenes.chain(1.5, 0.125).solve(0), 13 + 63 + 51 + 28);
    Check.due("100 in a later time", () -> Scenes.chain(1.8, 0.125).solve(0), 17 + 100 + 79 + 40);
    DuctBalance later = Scenes.chain(1.805, 0.125);
    Check.due("a 101st in a later time is not done", () -> later.solve(0), -1);
    Check.state("then it is not solved either", () -> later.at(0, 0));
    Check.state("nor are its gates", () -> later.draws(0, 0));
    notSolvedBySuch();
  }

  private static void notSolvedBySuch() {
    DuctBalance x = Scenes.half(64, 0.5, 1000);
    x.list(2, 1);
    x.solve(1);
    Check.due("a case that comes to rest is solved", () -> x.keeps(0), true);
    Check.due("one that does not", () -> x.solve(0), -1);
    Check.state("leaves nothing solved", () -> x.keeps(0));
    x.solve(1);
    Check.due("the other is solved again", () -> x.keeps(0), true);
    Check.due("a size at which it does not", () -> x.size(0), -1);
    Check.state("leaves nothing solved either", () -> x.keeps(0));
  }

  private static void drawIsAboveItsNeed() {
    DuctBalance just = Scenes.half(64, 0, 256);
    Check.due("a draw of the need", () -> just.solve(0), 2);
    Check.due("leaves the gate", () -> just.draws(0, 0), 1.0);
    DuctBalance less = Scenes.half(64, 0, Math.nextUp(256.0));
    Check.due("a draw below the need", () -> less.solve(0), 2);
    Check.due("leaves the gate too", () -> less.draws(0, 0), 1.0);
    double need = Math.nextDown(256.0);
    DuctBalance more = Scenes.half(64, 0, need);
    Check.due("a draw just above the need goes on no further", () -> more.solve(0), 2);
    Check.due("but closes the gate", () -> more.draws(0, 0), need / 256);
    drawOfTheNeedInALaterTime();
  }

  // machine 1 makes rounds go on while machine 0 draws its very need; by GATE * NEED / draw its gate would move then,
  // as that is rounded
  private static void drawOfTheNeedInALaterTime() {
    DuctBalance x = Scenes.half(64, 0, 0.9375);
    x.joint();
    x.duct(0, 2, 1, 1);
    x.machine(2, 32);
    x.use(0, 1, true);
    Check.due("rounds of ten times", () -> x.solve(0), 20);
    Check.due("its draw", () -> x.draws(0, 1), 0.9375);
    Check.due("its gate", () -> x.draws(0, 0), 0.0018344135991194815);
    Check.due("is not rounded once more", () -> x.draws(0, 0) == x.draws(0, 0) * 0.9375 / 0.9375, false);
  }

  private static void drawIsAboveByMoreThanAThousandth() {
    DuctBalance just = Scenes.half(62.5625, 0, 250);
    Check.due("a thousandth above is no reason to go on", () -> just.solve(0), 2);
    Check.due("but closes the gate", () -> just.draws(0, 0), 250 / 250.25);
    Check.due("what it draws then", () -> just.draws(0, 1), 250 / 250.25 * 8 * 31.28125);
    Check.due("the next need below is", () -> Scenes.half(62.5625, 0, Math.nextDown(250.0)).solve(0), 4);
    double less = Math.nextDown(250.0);
    Check.due("of two the second is a reason", () -> two(250, less).solve(0), 4);
    Check.due("of two the first is a reason", () -> two(less, 250).solve(0), 4);
    Check.due("though the other has not enough", () -> two(less, 1000).solve(0), 4);
    Check.due("neither is a reason", () -> two(250, 250).solve(0), 2);
    DuctBalance other = two(250, less);
    other.use(0, 1, false);
    Check.due("one that is not in use is none", () -> other.solve(0), 2);
  }

  // two machines with a duct of EASE 8 each, at which they draw 250.25 with open gates
  private static DuctBalance two(double need, double otherNeed) {
    DuctBalance x = Scenes.half(62.5625, 0, need);
    x.joint();
    x.duct(0, 2, 1, 2);
    x.machine(2, otherNeed);
    x.use(0, 1, true);
    return x;
  }

  // a duct of EASE 1, so that the gate closes by steps of need / 64: two rounds each time
  private static DuctBalance steps(double need) {
    DuctBalance x = new DuctBalance();
    x.joint();
    x.duct(0, 1, 1, 1);
    x.machine(1, need);
    x.use(0, 0, true);
    x.fan(64, 0);
    return x;
  }

  private static void timesAre10InAll() {
    Check.due("nine times are enough", () -> steps(16).solve(0), 18);
    Check.due("ten times are enough", () -> steps(20).solve(0), 20);
    DuctBalance x = steps(32);
    Check.due("ten times are not enough", () -> x.solve(0), 20);
    Check.due("it is balanced all the same", () -> x.at(0, 0), -64.0);
    Check.due("an eighth, and half of the rest each time", () -> x.draws(0, 0), 0.125 + 0.875 / 1024);
    Check.due("the tenth time's gates count", () -> x.draws(0, 1), 32.0);
    Check.due("pressures are those of the tenth time", () -> x.at(1, 0), -64 / (1 + 8 * (0.125 + 0.875 / 512)));
  }

  private static void residualIsNotOfJoint0() {
    DuctBalance x = Scenes.solvedHalf();
    Check.due("air comes to joint 0", () -> x.of(0, 0), -256.0);
    Check.due("but it has no residual", () -> x.at(0, 1), 0.0);
    DuctBalance y = steps(32);
    y.solve(0);
    double flow = y.of(0, 0);
    double draw = y.draws(0, 1);
    Check.due("joint 1 has one", () -> y.at(1, 1), flow + draw);
    Check.due("that is not 0", () -> y.at(1, 1) != 0, true);
  }

  private static void drawsAre0IfNotOpen() {
    DuctBalance x = Scenes.half(64, 0, 1000);
    x.machine(1, 0.125);
    x.solve(0);
    Check.due("one in use", () -> x.draws(0, 1), 256.0);
    Check.due("one that is not", () -> x.draws(1, 1), 0.0);
    Check.due("its gate", () -> x.draws(1, 0), 0.0);
    x.fan(0, 0);
    x.solve(0);
    Check.due("one in use without a pressure", () -> x.draws(0, 1), 0.0);
    Check.due("its gate stands open", () -> x.draws(0, 0), 1.0);
  }

  // all lists of four sizes with cents 5, 6 or 7, of which any may be wide enough
  private static void sizesGoInTheOrderOfCents() {
    for (int prices = 0; prices < 81; prices++) {
      int[] cents = {5 + prices % 3, 5 + prices / 3 % 3, 5 + prices / 9 % 3, 5 + prices / 27};
      for (int fits = 0; fits < 16; fits++) {
        sizeInOrder(cents, fits);
      }
    }
    sixSizesInOrder();
  }

  private static void sizeInOrder(int[] cents, int fits) {
    DuctBalance x = Scenes.half(60, 0, 240);
    int due = -1;
    int last = 0;
    double[] widths = new double[cents.length];
    for (int size = 0; size < cents.length; size++) {
      boolean isWide = (fits >> size & 1) == 1;
      widths[size] = isWide ? 2 + size * 0.5 : 0.5 + size * 0.125;
      x.list(widths[size], cents[size]);
      due = isWide && (due < 0 || cents[size] < cents[due]) ? size : due;
      last = cents[size] >= cents[last] ? size : last;
    }
    int chosen = due;
    String what = "cents " + Arrays.toString(cents) + ", fits " + fits;
    Check.due(what, () -> x.size(0), chosen);
    double width = widths[chosen < 0 ? last : chosen];
    Check.due(what + ": width", () -> x.of(0, 2), width * width * width);
  }

  private static void sixSizesInOrder() {
    DuctBalance falling = Scenes.half(60, 0, 240);
    DuctBalance even = Scenes.half(60, 0, 240);
    for (int size = 0; size < 6; size++) {
      falling.list(size == 0 ? 2 : 0.5 + size * 0.125, 5 - size);
      even.list(size == 5 ? 2 : 0.5 + size * 0.125, 5);
    }
    Check.due("the sixth in order is the first told", () -> falling.size(0), 0);
    Check.due("the first in order is the last told", () -> falling.size(1), 5);
    Check.due("of the same cents the sixth", () -> even.size(0), 5);
    Check.due("of the same cents the first", () -> even.size(1), 0);
  }

  private static int sizeFor(double strength, double need) {
    DuctBalance x = Scenes.half(strength, 0, need);
    x.list(2, 1);
    return x.size(0);
  }

  private static void sizeDrawsAtLeast() {
    Check.due("a draw of fifteen sixteenths", () -> sizeFor(60, 256), 0);
    Check.due("just less", () -> sizeFor(Math.nextDown(60.0), 256), -1);
    Check.due("just more", () -> sizeFor(Math.nextUp(60.0), 256), 0);
    Check.due("of a need just more", () -> sizeFor(60, Math.nextUp(256.0)), -1);
    Check.due("a closed gate draws enough", () -> sizeFor(1000, 0.125), 0);
    DuctBalance two = Scenes.half(60, 0, 256);
    two.joint();
    two.duct(0, 2, 1, 2);
    two.machine(2, Math.nextUp(256.0));
    two.list(2, 1);
    Check.due("one that has enough", () -> two.size(0), 0);
    two.use(0, 1, true);
    Check.due("each must have it", () -> two.size(0), -1);
  }

  private static void sizeAsksOnlyMachinesInUse() {
    DuctBalance x = Scenes.half(60, 0, 1000);
    x.list(2, 1);
    Check.due("one in use has too little", () -> x.size(0), -1);
    for (int caseOf = 1; caseOf < 4; caseOf++) {
      int asked = caseOf;
      Check.due("none in use in case " + caseOf, () -> x.size(asked), 0);
    }
    x.joint();
    x.machine(2, 0.125);
    Check.due("one without a duct is not in use", () -> x.size(1), 0);
    x.use(1, 1, true);
    Check.due("one without a duct gets nothing", () -> x.size(1), -1);
  }

  private static void sizeIsBalanced() {
    DuctBalance x = new DuctBalance();
    x.joint();
    x.joint();
    x.duct(0, 1, 60, 4);
    x.duct(1, 2, 1, 4);
    x.machine(2, 8);
    x.use(0, 0, true);
    x.fan(64, 0);
    Check.due("more than 100 rounds, so that it is not balanced", () -> x.solve(0), -1);
    x.list(4, 1);
    Check.due("a size at which it is not", () -> x.size(0), -1);
    Check.state("then it is not solved", () -> x.at(0, 0));
    x.list(2, 2);
    Check.due("a dearer one at which it is", () -> x.size(0), 1);
    Check.due("its draw is above the need of itself", () -> x.draws(0, 0) < 1, true);
    Check.due("its width", () -> x.of(1, 2), 8.0);
    x.list(0.125, 3);
    Check.due("no dearer one is tried then", () -> x.size(0), 1);
    Check.due("nor left in the ducts", () -> x.of(1, 2), 8.0);
  }

  private static void sizeIsAsSolvedThen() {
    DuctBalance x = Scenes.half(60, 0, 1000);
    x.list(2, 1);
    x.list(1, 2);
    Check.due("too little air", () -> x.size(0), -1);
    Check.due("the width of the last one", () -> x.of(0, 2), 1.0);
    Check.due("solved, as it is balanced", () -> x.keeps(0), true);
    Check.due("a solve finds the same", () -> { double was = x.at(1, 0); x.solve(0); return x.at(1, 0) == was; }, true);
    DuctBalance slow = Scenes.half(60, 0.5, 1000);
    slow.list(1, 1);
    slow.list(2, 2);
    slow.solve(1);
    Check.due("the last one is not balanced", () -> slow.size(0), -1);
    Check.state("so it is not solved", () -> slow.at(0, 0));
    Check.due("in a case that comes to rest", () -> slow.solve(1), 2);
    slow.duct(0, 1, 1, 1);
    slow.solve(1);
    Check.due("ducts have the width of the last one all the same", () -> slow.of(0, 2), 8.0);
    DuctBalance found = Scenes.half(60, 0, 256);
    found.list(2, 1);
    found.size(0);
    Check.due("solved with the size found", () -> found.draws(0, 1), 240.0);
    DuctBalance fresh = Scenes.half(60, 0, 256);
    fresh.list(2, 1);
    Check.state("a list alone solves nothing", () -> fresh.at(0, 0));
  }

  private static void leakIs0AtFirst() {
    DuctBalance x = Scenes.full();
    for (int duct = 1; duct < 15; duct++) {
      int asked = duct;
      Check.due("leak of duct " + duct, () -> x.of(asked, 3), 0.0);
    }
    DuctBalance y = Scenes.solvedHalf();
    y.read(0, 264);
    Check.due("a reading alone makes none", () -> y.of(0, 3), 0.0);
    y.fit(0);
    Check.due("nor do no rounds", () -> y.of(0, 3), 0.0);
    y.fit(1);
    Check.due("a round does", () -> y.of(0, 3), 4.0);
    y.duct(0, 1, 1, 2);
    y.solve(0);
    Check.due("a new duct has none", () -> y.of(1, 3), 0.0);
    Check.due("the other keeps its own", () -> y.of(0, 3), 4.0);
  }

  // a leak of 4, then a round with that reading of a flow of 256
  private static double leakAfter(double reading) {
    DuctBalance x = Scenes.solvedHalf();
    x.read(0, 264);
    x.fit(1);
    x.read(0, reading);
    x.fit(1);
    return x.of(0, 3);
  }

  private static void leakIsNotBelow0() {
    Check.due("more", () -> leakAfter(264), 6.0);
    Check.due("as it is", () -> leakAfter(260), 4.0);
    Check.due("less", () -> leakAfter(256), 2.0);
    Check.due("below the flow, but above 0", () -> leakAfter(252.5), 0.25);
    Check.due("just 0", () -> leakAfter(252), 0.0);
    Check.due("not below it", () -> leakAfter(251.5), 0.0);
    Check.due("not far below it", () -> leakAfter(0), 0.0);
    DuctBalance x = Scenes.solvedHalf();
    x.read(0, 246);
    Check.due("what is missing then counts in the sum", () -> x.fit(50), 100.0);
    Check.due("it stays 0", () -> x.of(0, 3), 0.0);
    x.read(0, 264);
    x.fit(1);
    Check.due("and grows from 0", () -> x.of(0, 3), 4.0);
  }

  private static void sumIsOverReadDucts() {
    DuctBalance x = Scenes.solvedHalf();
    x.duct(0, 1, 1, 2);
    x.duct(0, 1, 1, 2);
    x.fan(40, 0);
    x.solve(0);
    Check.due("each has a flow", () -> x.of(2, 0), -80.0);
    Check.due("none is read", () -> x.fit(0), 0.0);
    Check.due("none is read, 50 rounds", () -> x.fit(50), 0.0);
    x.read(2, 83);
    Check.due("the last is read", () -> x.fit(0), 9.0);
    x.read(0, 84);
    Check.due("the first too", () -> x.fit(0), 25.0);
    x.read(1, 0);
    Check.due("one with a reading of 0 too", () -> x.fit(0), 6425.0);
    Check.due("a round of each", () -> x.fit(1), 4.0 + 6400 + 2.25);
  }
}
