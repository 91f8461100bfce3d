/** Runs of calls, the same ones each time, each answered by the class as by the plain model. */
public final class ModelTest {
  private static final int RUNS = 2000;
  // the document promises nothing of an object after its 512th call; a look around is under 200
  private static final int MOST_CALLS = 512 - 200;
  private static final double[] LENGTHS = {0.125, 0.5, 1, 1.5, 2, 3, 8, 16, 100};
  private static final double[] WIDTHS = {0.125, 0.75, 1, 1.5, 2, 2.5, 3, 4, 8};
  private static final double[] NEEDS = {0.125, 2, 4, 8, 12.5, 16, 32, 64, 100, 1000};
  private static final double[] FALLS = {0, 0, 0.03125, 0.0625, 0.125, 0.25, 0.5, 1};
  private static final double[] STRENGTHS = {0, 16, 64, 100, 128, 256, 500, 1000};
  private static final double[] WRONG = {0, -1, 100.5, 1000.5, 10000.5, 0.1};

  private long state;
  private int asked = 0;
  private int solves = 0;
  private int balanced = 0;
  private int sized = 0;
  private int tenTimes = 0;
  private int flowsHeldAtZero = 0;

  public static void main(String[] args) {
    ModelTest test = new ModelTest();
    for (int run = 0; run < RUNS; run++) {
      test.state = run * 2654435761L + 12345;
      test.oneRun("run " + run + ": ");
    }
    test.checkThatRunsWentFar();
    Check.end("ModelTest");
  }

  private void checkThatRunsWentFar() {
    System.out.println("solved " + solves + ", balanced " + balanced + ", sized " + sized + ", ten times " + tenTimes
        + ", flows held at 0 " + flowsHeldAtZero);
    Check.due("runs go far enough", () -> balanced > 500 && balanced < solves - 500 && sized > 100
        && tenTimes > 100 && flowsHeldAtZero > 100, true);
  }

  private int below(int bound) {
    state = state * 6364136223846793005L + 1442695040888963407L;
    return (int) ((state >>> 33) % bound);
  }

  private double one(double[] row) {
    return below(40) == 0 ? WRONG[below(WRONG.length)] : row[below(row.length)];
  }

  // mostly a number that there is, seldom one that there is not
  private int number(int told) {
    return below(25) == 0 || told == 0 ? below(told + 3) - 1 : below(told);
  }

  private void oneRun(String run) {
    DuctBalance x = new DuctBalance();
    PlainModel y = new PlainModel();
    int shape = below(4);
    int calls = 20 + below(120);
    asked = 0;
    for (int call = 0; call < calls && asked < MOST_CALLS; call++) {
      if (below(3) > 0 && call < 12 + shape * 12) {
        build(run + call, x, y, shape);
      } else {
        other(run + call, x, y);
      }
    }
    tenTimes += y.tenTimes;
    flowsHeldAtZero += y.flowsHeldAtZero;
  }

  private void build(String at, DuctBalance x, PlainModel y, int shape) {
    int joints = y.count(0);
    switch (below(4)) {
      case 0:
        if (joints < 3 + shape * 3) {
          tellJointWithDuct(at, x, y, joints);
        }
        break;
      case 1:
        tellDuct(at, x, y, number(joints), number(joints));
        break;
      default:
        tellMachine(at, x, y, number(joints));
        break;
    }
  }

  private void tellJointWithDuct(String at, DuctBalance x, PlainModel y, int joints) {
    same(at + " joint", x::joint, y::joint);
    if (below(6) > 0) {
      boolean turned = below(2) == 0;
      int end = below(joints);
      tellDuct(at, x, y, turned ? joints : end, turned ? end : joints);
    }
  }

  private void tellDuct(String at, DuctBalance x, PlainModel y, int a, int b) {
    double length = one(LENGTHS);
    double width = one(WIDTHS);
    same(at + " duct", () -> x.duct(a, b, length, width), () -> y.duct(a, b, length, width));
  }

  private void tellMachine(String at, DuctBalance x, PlainModel y, int joint) {
    double need = one(NEEDS);
    same(at + " machine", () -> x.machine(joint, need), () -> y.machine(joint, need));
    int last = y.count(2) - 1;
    if (last >= 0 && below(4) > 0) {
      use(at, x, y, below(2), last, true);
    }
  }

  private void use(String at, DuctBalance x, PlainModel y, int caseOf, int machine, boolean on) {
    same(at + " use", () -> { x.use(caseOf, machine, on); return 0; }, () -> { y.use(caseOf, machine, on); return 0; });
  }

  private void other(String at, DuctBalance x, PlainModel y) {
    switch (below(9)) {
      case 0:
        use(at, x, y, number(4), number(y.count(2)), below(3) > 0);
        break;
      case 1:
        tellFan(at, x, y);
        break;
      case 2:
        tellSize(at, x, y);
        break;
      case 3:
        size(at, x, y, number(4));
        break;
      case 4:
        readAndFit(at, x, y);
        break;
      default:
        solve(at, x, y, below(3) == 0 ? number(4) : below(2));
        break;
    }
    if (below(3) == 0) {
      lookAround(at, x, y);
    }
  }

  private void tellFan(String at, DuctBalance x, PlainModel y) {
    double strength = one(STRENGTHS);
    double fall = one(FALLS);
    same(at + " fan", () -> { x.fan(strength, fall); return 0; }, () -> { y.fan(strength, fall); return 0; });
  }

  private void tellSize(String at, DuctBalance x, PlainModel y) {
    double width = one(WIDTHS);
    int cents = below(30) == 0 ? below(2000) * 1000 - 1000 : below(4) * 10;
    same(at + " list", () -> x.list(width, cents), () -> y.list(width, cents));
  }

  private void size(String at, DuctBalance x, PlainModel y, int caseOf) {
    asked++;
    String got = Check.outcome(() -> x.size(caseOf));
    Check.same(at + " size", got, Check.outcome(() -> y.size(caseOf)));
    sized += got.length() == 1 ? 1 : 0;
  }

  private void readAndFit(String at, DuctBalance x, PlainModel y) {
    int duct = number(y.count(1));
    double v = below(30) == 0 ? 10001 : below(3000) * 0.25;
    int rounds = below(20) == 0 ? below(60) - 5 : below(6);
    same(at + " read", () -> { x.read(duct, v); return 0; }, () -> { y.read(duct, v); return 0; });
    same(at + " fit", () -> x.fit(rounds), () -> y.fit(rounds));
  }

  private void solve(String at, DuctBalance x, PlainModel y, int caseOf) {
    asked++;
    String got = Check.outcome(() -> x.solve(caseOf));
    Check.same(at + " solve", got, Check.outcome(() -> y.solve(caseOf)));
    solves++;
    balanced += got.startsWith("-") || got.startsWith("t") ? 0 : 1;
  }

  // everything that can be asked, one beyond the last of each too
  private void lookAround(String at, DuctBalance x, PlainModel y) {
    for (int what = 0; what <= 4; what++) {
      int which = what;
      same(at + " count", () -> x.count(which), () -> y.count(which));
      for (int number = 0; number <= y.count(0); number++) {
        int it = number;
        same(at + " at " + it + " " + what, () -> x.at(it, which), () -> y.at(it, which));
      }
      for (int number = 0; number <= y.count(1); number++) {
        int it = number;
        same(at + " of " + it + " " + what, () -> x.of(it, which), () -> y.of(it, which));
      }
      for (int number = 0; number <= y.count(2); number++) {
        int it = number;
        same(at + " draws " + it + " " + what, () -> x.draws(it, which), () -> y.draws(it, which));
      }
    }
    double least = below(200) - 2;
    same(at + " keeps", () -> x.keeps(least), () -> y.keeps(least));
  }

  private void same(String what, Check.Call got, Check.Call due) {
    asked++;
    Check.same(what, Check.outcome(got), Check.outcome(due));
  }
}
