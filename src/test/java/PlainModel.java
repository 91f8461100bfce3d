import java.util.ArrayList;
import java.util.List;

/** The document once more, as plainly as it goes: everything reckoned anew each time, by objects and their names. */
final class PlainModel {
  static final class Joint {
    double pressure;
  }

  static final class Duct {
    Joint a;
    Joint b;
    double length;
    double width;
    double leak;
    Double reading;

    double ease() {
      return width * width * width / length;
    }

    double flow() {
      return ease() * (a.pressure - b.pressure);
    }

    double error() {
      return reading - Math.abs(flow()) - leak;
    }

    boolean touches(Joint joint) {
      return a == joint || b == joint;
    }

    Joint over(Joint joint) {
      return a == joint ? b : a;
    }
  }

  static final class Machine {
    Joint joint;
    double need;
    double gate;
    boolean open;
    final boolean[] used = new boolean[4];

    double draw() {
      return open ? Math.max(0, gate * 8 * (0 - joint.pressure)) : 0;
    }
  }

  static final class Size {
    int number;
    double width;
    int cents;
  }

  /** How often a solve went as far as this, so that a test can tell whether it saw such. */
  int tenTimes = 0;
  int flowsHeldAtZero = 0;

  private final List<Joint> joints = new ArrayList<>(List.of(new Joint()));
  private final List<Duct> ducts = new ArrayList<>();
  private final List<Machine> machines = new ArrayList<>();
  private final List<Size> sizes = new ArrayList<>();
  private double strength = 64;
  private double fall = 0.25;
  private double came;
  private boolean solved;

  int joint() {
    state(joints.size() != 10);
    joints.add(new Joint());
    solved = false;
    return joints.size() - 1;
  }

  int duct(int a, int b, double length, double width) {
    there(a, joints.size());
    there(b, joints.size());
    said(a != b);
    within(length, 0.125, 100);
    within(width, 0.125, 100);
    state(ducts.size() != 16);
    Duct duct = new Duct();
    duct.a = joints.get(a);
    duct.b = joints.get(b);
    duct.length = length;
    duct.width = width;
    ducts.add(duct);
    solved = false;
    return ducts.size() - 1;
  }

  int machine(int joint, double need) {
    there(joint, joints.size());
    said(joint != 0);
    within(need, 0.125, 1000);
    state(machines.size() != 8);
    Machine machine = new Machine();
    machine.joint = joints.get(joint);
    machine.need = need;
    machines.add(machine);
    solved = false;
    return machines.size() - 1;
  }

  void use(int caseOf, int machine, boolean on) {
    there(caseOf, 4);
    there(machine, machines.size());
    machines.get(machine).used[caseOf] = on;
    solved = false;
  }

  void fan(double toStrength, double toFall) {
    within(toStrength, 0, 1000);
    within(toFall, 0, 1000);
    strength = toStrength;
    fall = toFall;
    solved = false;
  }

  int solve(int caseOf) {
    there(caseOf, 4);
    solved = false;
    joints.forEach(joint -> joint.pressure = 0);
    for (Machine machine : machines) {
      machine.open = machine.used[caseOf];
      machine.gate = machine.open ? 1 : 0;
    }
    came = 0;
    int all = 0;
    int times = 0;
    boolean tooMuch;
    do {
      times++;
      int rounds = 0;
      double change;
      do {
        change = round();
        rounds++;
      } while (change >= Math.pow(2, -20) && rounds < 100);
      all += rounds;
      if (change >= Math.pow(2, -20)) {
        return -1;
      }
      tooMuch = false;
      for (Machine machine : machines) {
        double draw = machine.draw();
        if (draw > machine.need) {
          tooMuch |= draw * 1000 > machine.need * 1001;
          machine.gate = machine.gate * machine.need / draw;
        }
      }
    } while (tooMuch && times < 10);
    tenTimes += tooMuch ? 1 : 0;
    solved = true;
    return all;
  }

  private double round() {
    Joint fan = joints.get(0);
    fan.pressure = Math.min(0, 0 - (strength - fall * came));
    double change = 0;
    for (Joint joint : joints) {
      if (joint == fan || ducts.stream().noneMatch(duct -> duct.touches(joint))) {
        continue;
      }
      double a = 0;
      double b = 0;
      for (Duct duct : ducts) {
        if (duct.touches(joint)) {
          a = a + duct.ease() * duct.over(joint).pressure;
          b = b + duct.ease();
        }
      }
      for (Machine machine : machines) {
        if (machine.joint == joint && machine.open) {
          b = b + machine.gate * 8;
        }
      }
      change = Math.max(change, Math.abs(a / b - joint.pressure));
      joint.pressure = a / b;
    }
    double sum = 0;
    for (Duct duct : ducts) {
      if (duct.touches(fan)) {
        sum = sum + duct.ease() * (duct.over(fan).pressure - fan.pressure);
      }
    }
    flowsHeldAtZero += sum < 0 ? 1 : 0;
    came = Math.max(0, sum);
    return change;
  }

  double at(int joint, int what) {
    there(joint, joints.size());
    there(what, 2);
    state(solved);
    Joint here = joints.get(joint);
    if (what == 0 || joint == 0) {
      return what == 0 ? here.pressure : 0;
    }
    double sum = 0;
    for (Duct duct : ducts) {
      sum += duct.b == here ? duct.flow() : duct.a == here ? -duct.flow() : 0;
    }
    for (Machine machine : machines) {
      sum += machine.joint == here ? machine.draw() : 0;
    }
    return sum;
  }

  double of(int duct, int what) {
    there(duct, ducts.size());
    there(what, 4);
    state(solved);
    Duct it = ducts.get(duct);
    double[] answers = {it.flow(), speed(it), it.ease(), it.leak};
    return answers[what];
  }

  private static double speed(Duct duct) {
    return Math.abs(duct.flow()) / (duct.width * duct.width);
  }

  double draws(int machine, int what) {
    there(machine, machines.size());
    there(what, 2);
    state(solved);
    return what == 0 ? machines.get(machine).gate : machines.get(machine).draw();
  }

  boolean keeps(double least) {
    said(!(least < 0));
    state(solved);
    return ducts.stream().allMatch(duct -> speed(duct) >= least);
  }

  int list(double width, int cents) {
    within(width, 0.125, 100);
    within(cents, 0, 1000000);
    state(sizes.size() != 6);
    Size size = new Size();
    size.number = sizes.size();
    size.width = width;
    size.cents = cents;
    sizes.add(size);
    return size.number;
  }

  int size(int caseOf) {
    there(caseOf, 4);
    state(!sizes.isEmpty());
    List<Size> ordered = new ArrayList<>(sizes);
    ordered.sort((x, y) -> x.cents != y.cents ? x.cents - y.cents : x.number - y.number);
    for (Size size : ordered) {
      ducts.forEach(duct -> duct.width = size.width);
      boolean balanced = solve(caseOf) >= 0;
      if (balanced && machines.stream().allMatch(m -> !m.open || m.draw() >= m.need * 0.9375)) {
        return size.number;
      }
    }
    return -1;
  }

  void read(int duct, double v) {
    there(duct, ducts.size());
    within(v, 0, 10000);
    ducts.get(duct).reading = v;
  }

  double fit(int rounds) {
    within(rounds, 0, 50);
    state(solved);
    double sum = 0;
    for (Duct duct : ducts) {
      for (int round = 0; round < rounds && duct.reading != null; round++) {
        duct.leak = Math.max(0, duct.leak + duct.error() / 2);
      }
      sum += duct.reading == null ? 0 : duct.error() * duct.error();
    }
    return sum;
  }

  int count(int what) {
    there(what, 4);
    int[] answers = {joints.size(), ducts.size(), machines.size(), sizes.size()};
    return answers[what];
  }

  private static void there(int number, int bound) {
    if (number < 0 || number >= bound) {
      throw new IndexOutOfBoundsException();
    }
  }

  private static void within(double x, double least, double most) {
    said(x >= least && x <= most);
  }

  private static void said(boolean isAsSaid) {
    if (!isAsSaid) {
      throw new IllegalArgumentException();
    }
  }

  private static void state(boolean isReady) {
    if (!isReady) {
      throw new IllegalStateException();
    }
  }
}
