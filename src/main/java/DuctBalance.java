/**
 * Dust and air: ducts between joints, machines with gates, a fan, cases in which some machines run.
 *
 * <p>The public methods test what they are told and throw; the classes inside reckon and never throw. Rows are made
 * once, with the object, so that no call makes anything.
 */
public final class DuctBalance {
  public static final int NONE = -1;

  private static final int JOINTS = 10;
  private static final int DUCTS = 16;
  private static final int MACHINES = 8;
  private static final int CASES = 4;
  private static final int SIZES = 6;
  private static final int FITS = 50;
  private static final int ROUNDS = 100;
  private static final int TIMES = 10;
  private static final int MOST_CENTS = 1000000;
  // CHANGE is small below one such part, 2^-20
  private static final int CHANGE_PARTS = 1048576;

  private final Air air = new Air();
  private final Ducts ducts = air.ducts;
  private final Machines machines = air.machines;
  private final Leaks leaks = new Leaks();
  private final Sizes sizes = new Sizes();
  private int joints = 1;
  private boolean solved = false;

  public DuctBalance() {}

  public int joint() throws IllegalStateException {
    checkState(joints < JOINTS);
    solved = false;
    joints++;
    return joints - 1;
  }

  public int duct(int a, int b, double length, double width)
      throws IndexOutOfBoundsException, IllegalArgumentException, IllegalStateException {
    checkIndex(a, joints);
    checkIndex(b, joints);
    checkArgument(a != b && isWithin(length, 0.125, 100) && isWithin(width, 0.125, 100));
    checkState(ducts.told < DUCTS);
    solved = false;
    return ducts.add(a, b, length, width);
  }

  public int machine(int joint, double need)
      throws IndexOutOfBoundsException, IllegalArgumentException, IllegalStateException {
    checkIndex(joint, joints);
    checkArgument(joint != 0 && isWithin(need, 0.125, 1000));
    checkState(machines.told < MACHINES);
    solved = false;
    return machines.add(joint, need);
  }

  public void use(int caseOf, int machine, boolean on) throws IndexOutOfBoundsException {
    checkIndex(caseOf, CASES);
    checkIndex(machine, machines.told);
    solved = false;
    machines.setUsed(caseOf, machine, on);
  }

  public void fan(double strength, double fall) throws IllegalArgumentException {
    checkArgument(isWithin(strength, 0, 1000) && isWithin(fall, 0, 1000));
    solved = false;
    air.fan.strength = strength;
    air.fan.fall = fall;
  }

  public int solve(int caseOf) throws IndexOutOfBoundsException {
    checkIndex(caseOf, CASES);
    int rounds = air.balance(caseOf);
    solved = rounds != NONE;
    return rounds;
  }

  public double at(int joint, int what) throws IndexOutOfBoundsException, IllegalStateException {
    checkIndex(joint, joints);
    checkIndex(what, 2);
    checkState(solved);
    return what == 0 ? air.pressure[joint] : air.residual(joint);
  }

  public double of(int duct, int what) throws IndexOutOfBoundsException, IllegalStateException {
    checkIndex(duct, ducts.told);
    checkIndex(what, 4);
    checkState(solved);
    switch (what) {
      case 0:
        return air.flow(duct);
      case 1:
        return air.speed(duct);
      case 2:
        return ducts.ease[duct];
      default:
        return leaks.leak[duct];
    }
  }

  public double draws(int machine, int what) throws IndexOutOfBoundsException, IllegalStateException {
    checkIndex(machine, machines.told);
    checkIndex(what, 2);
    checkState(solved);
    return what == 0 ? machines.gate[machine] : air.draw(machine);
  }

  public boolean keeps(double least) throws IllegalArgumentException, IllegalStateException {
    // NaN is not below 0, and only what is below 0 is refused
    checkArgument(!(least < 0));
    checkState(solved);
    return air.isEachSpeedAtLeast(least);
  }

  public int list(double width, int cents) throws IllegalArgumentException, IllegalStateException {
    checkArgument(isWithin(width, 0.125, 100) && cents >= 0 && cents <= MOST_CENTS);
    checkState(sizes.told < SIZES);
    return sizes.add(width, cents);
  }

  public int size(int caseOf) throws IndexOutOfBoundsException, IllegalStateException {
    checkIndex(caseOf, CASES);
    checkState(sizes.told > 0);
    for (int turn = 0; turn < sizes.told; turn++) {
      int tried = sizes.order[turn];
      ducts.setWidths(sizes.width[tried]);
      solved = air.balance(caseOf) != NONE;
      if (solved && air.isEachMachineServed()) {
        return tried;
      }
    }
    return NONE;
  }

  public void read(int duct, double v) throws IndexOutOfBoundsException, IllegalArgumentException {
    checkIndex(duct, ducts.told);
    checkArgument(isWithin(v, 0, 10000));
    leaks.reading[duct] = v;
    leaks.isRead[duct] = true;
  }

  public double fit(int rounds) throws IllegalArgumentException, IllegalStateException {
    checkArgument(rounds >= 0 && rounds <= FITS);
    checkState(solved);
    for (int round = 0; round < rounds; round++) {
      leaks.approach(air);
    }
    return leaks.sumOfSquares(air);
  }

  public int count(int what) throws IndexOutOfBoundsException {
    checkIndex(what, 4);
    switch (what) {
      case 0:
        return joints;
      case 1:
        return ducts.told;
      case 2:
        return machines.told;
      default:
        return sizes.told;
    }
  }

  private static void checkIndex(int index, int bound) {
    if (index < 0 || index >= bound) {
      throw new IndexOutOfBoundsException("there is no such thing");
    }
  }

  private static void checkArgument(boolean isAsSaid) {
    if (!isAsSaid) {
      throw new IllegalArgumentException("a number is not as said");
    }
  }

  private static void checkState(boolean isReady) {
    if (!isReady) {
      throw new IllegalStateException("there is no room, or it is not solved");
    }
  }

  // asked so that NaN lies within no bounds
  private static boolean isWithin(double x, double least, double most) {
    return x >= least && x <= most;
  }

  private static double magnitude(double x) {
    return x < 0 ? -x : x;
  }

  private static double notBelowZero(double x) {
    return x < 0 ? 0 : x;
  }

  /** The ducts as they are told, and for each joint the numbers of its ducts in turn. */
  private static final class Ducts {
    int told = 0;
    final int[] first = new int[DUCTS];
    final int[] second = new int[DUCTS];
    final double[] length = new double[DUCTS];
    final double[] width = new double[DUCTS];
    final double[] ease = new double[DUCTS];
    final int[][] ofJoint = new int[JOINTS][DUCTS];
    final int[] ductsOfJoint = new int[JOINTS];

    int add(int a, int b, double itsLength, double itsWidth) {
      int duct = told;
      told++;
      first[duct] = a;
      second[duct] = b;
      length[duct] = itsLength;
      setWidth(duct, itsWidth);
      hangOn(a, duct);
      hangOn(b, duct);
      return duct;
    }

    void setWidths(double each) {
      for (int duct = 0; duct < told; duct++) {
        setWidth(duct, each);
      }
    }

    int otherEnd(int duct, int joint) {
      return first[duct] == joint ? second[duct] : first[duct];
    }

    // a duct's two ends are never one joint, so a joint's row has room for every duct
    private void hangOn(int joint, int duct) {
      ofJoint[joint][ductsOfJoint[joint]] = duct;
      ductsOfJoint[joint]++;
    }

    private void setWidth(int duct, double itsWidth) {
      width[duct] = itsWidth;
      ease[duct] = itsWidth * itsWidth * itsWidth / length[duct];
    }
  }

  /** The machines as they are told; which are open, and how far, is as the last balancing left it. */
  private static final class Machines {
    int told = 0;
    final int[] joint = new int[MACHINES];
    final double[] need = new double[MACHINES];
    final double[] gate = new double[MACHINES];
    final boolean[] isOpen = new boolean[MACHINES];
    // bit c: used in case c
    final int[] cases = new int[MACHINES];

    int add(int itsJoint, double itsNeed) {
      int machine = told;
      told++;
      joint[machine] = itsJoint;
      need[machine] = itsNeed;
      return machine;
    }

    void setUsed(int caseOf, int machine, boolean on) {
      int bit = 1 << caseOf;
      cases[machine] = on ? cases[machine] | bit : cases[machine] & ~bit;
    }

    void openFor(int caseOf) {
      for (int machine = 0; machine < told; machine++) {
        isOpen[machine] = ((cases[machine] >> caseOf) & 1) == 1;
        gate[machine] = isOpen[machine] ? 1 : 0;
      }
    }

    boolean isOpenAt(int machine, int itsJoint) {
      return isOpen[machine] && joint[machine] == itsJoint;
    }
  }

  /** The sizes as they are told, and their numbers in the order of their cents. */
  private static final class Sizes {
    int told = 0;
    final double[] width = new double[SIZES];
    final int[] cents = new int[SIZES];
    final int[] order = new int[SIZES];

    int add(double itsWidth, int itsCents) {
      int added = told;
      width[added] = itsWidth;
      cents[added] = itsCents;
      int place = added;
      // only dearer ones move up: of the same cents the lesser number stays first
      while (place > 0 && cents[order[place - 1]] > itsCents) {
        order[place] = order[place - 1];
        place--;
      }
      order[place] = added;
      told++;
      return added;
    }
  }

  /** The fan, and the flow that came to it in the last round. */
  private static final class Fan {
    double strength = 64;
    double fall = 0.25;
    double flow = 0;

    double hold() {
      double held = 0 - (strength - fall * flow);
      return held > 0 ? 0 : held;
    }
  }

  /** The leaks of the ducts, and the readings that they are fitted to. */
  private static final class Leaks {
    final double[] leak = new double[DUCTS];
    final double[] reading = new double[DUCTS];
    final boolean[] isRead = new boolean[DUCTS];

    void approach(Air air) {
      for (int duct = 0; duct < DUCTS; duct++) {
        if (isRead[duct]) {
          leak[duct] = notBelowZero(leak[duct] + missing(duct, air) / 2);
        }
      }
    }

    double sumOfSquares(Air air) {
      double sum = 0;
      for (int duct = 0; duct < DUCTS; duct++) {
        if (isRead[duct]) {
          double error = missing(duct, air);
          sum += error * error;
        }
      }
      return sum;
    }

    private double missing(int duct, Air air) {
      return reading[duct] - magnitude(air.flow(duct)) - leak[duct];
    }
  }

  /** The pressures at the joints, and all that is reckoned from them. */
  private static final class Air {
    final Ducts ducts = new Ducts();
    final Machines machines = new Machines();
    final Fan fan = new Fan();
    final double[] pressure = new double[JOINTS];
    // what a joint's pull is divided by; 0 if it has no duct
    private final double[] weight = new double[JOINTS];

    /** How many rounds it took in all, or NONE if they did not come to rest. */
    int balance(int caseOf) {
      machines.openFor(caseOf);
      fan.flow = 0;
      for (int joint = 0; joint < JOINTS; joint++) {
        pressure[joint] = 0;
      }
      int rounds = 0;
      boolean goesOn = true;
      for (int time = 0; time < TIMES && goesOn; time++) {
        int done = settle();
        if (done == NONE) {
          return NONE;
        }
        rounds += done;
        goesOn = closeGates();
      }
      return rounds;
    }

    /** How many rounds it took this time, or NONE if all of them were too few. */
    private int settle() {
      weighJoints();
      for (int done = 1; done <= ROUNDS; done++) {
        if (changeOfRound() < 1.0 / CHANGE_PARTS) {
          return done;
        }
      }
      return NONE;
    }

    // gates stand still while rounds go, and with them the weights
    private void weighJoints() {
      for (int joint = 0; joint < JOINTS; joint++) {
        weight[joint] = ducts.ductsOfJoint[joint] == 0 ? 0 : weigh(joint);
      }
    }

    private double weigh(int joint) {
      double sum = 0;
      for (int turn = 0; turn < ducts.ductsOfJoint[joint]; turn++) {
        sum += ducts.ease[ducts.ofJoint[joint][turn]];
      }
      for (int machine = 0; machine < machines.told; machine++) {
        if (machines.isOpenAt(machine, joint)) {
          sum += machines.gate[machine] * 8;
        }
      }
      return sum;
    }

    private double changeOfRound() {
      double change = 0;
      pressure[0] = fan.hold();
      for (int joint = 1; joint < JOINTS; joint++) {
        if (weight[joint] > 0) {
          double before = pressure[joint];
          pressure[joint] = pull(joint) / weight[joint];
          double moved = magnitude(pressure[joint] - before);
          change = moved > change ? moved : change;
        }
      }
      fan.flow = notBelowZero(flowsTo(0));
      return change;
    }

    private double pull(int joint) {
      double sum = 0;
      for (int turn = 0; turn < ducts.ductsOfJoint[joint]; turn++) {
        int duct = ducts.ofJoint[joint][turn];
        sum += ducts.ease[duct] * pressure[ducts.otherEnd(duct, joint)];
      }
      return sum;
    }

    private double flowsTo(int joint) {
      double sum = 0;
      for (int turn = 0; turn < ducts.ductsOfJoint[joint]; turn++) {
        int duct = ducts.ofJoint[joint][turn];
        sum += ducts.ease[duct] * (pressure[ducts.otherEnd(duct, joint)] - pressure[joint]);
      }
      return sum;
    }

    /** Closes the gates that let too much through; whether one did so by more than a thousandth. */
    private boolean closeGates() {
      boolean wasFarAbove = false;
      for (int machine = 0; machine < machines.told; machine++) {
        double draw = draw(machine);
        double need = machines.need[machine];
        // a need is above 0, so a draw above it can divide
        if (machines.isOpen[machine] && draw > need) {
          machines.gate[machine] = machines.gate[machine] * need / draw;
          wasFarAbove = wasFarAbove || draw * 1000 > need * 1001;
        }
      }
      return wasFarAbove;
    }

    double draw(int machine) {
      if (!machines.isOpen[machine]) {
        return 0;
      }
      return notBelowZero(machines.gate[machine] * 8 * (0 - pressure[machines.joint[machine]]));
    }

    double residual(int joint) {
      if (joint == 0) {
        return 0;
      }
      double sum = flowsTo(joint);
      for (int machine = 0; machine < machines.told; machine++) {
        if (machines.isOpenAt(machine, joint)) {
          sum += draw(machine);
        }
      }
      return sum;
    }

    double flow(int duct) {
      return ducts.ease[duct] * (pressure[ducts.first[duct]] - pressure[ducts.second[duct]]);
    }

    double speed(int duct) {
      return magnitude(flow(duct)) / (ducts.width[duct] * ducts.width[duct]);
    }

    boolean isEachSpeedAtLeast(double least) {
      for (int duct = 0; duct < ducts.told; duct++) {
        if (!(speed(duct) >= least)) {
          return false;
        }
      }
      return true;
    }

    boolean isEachMachineServed() {
      for (int machine = 0; machine < machines.told; machine++) {
        if (machines.isOpen[machine] && draw(machine) < machines.need[machine] * 0.9375) {
          return false;
        }
      }
      return true;
    }
  }
}
