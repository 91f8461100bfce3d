import java.util.List;

/** Counts and prints what is not as it is due; a test ends with {@link #end}. */
final class Check {
  interface Call {
    Object answer();
  }

  private static int wrong = 0;

  private Check() {}

  /** What a call answers, or the name of what it throws; doubles by their very bits, but for the sign of 0. */
  static String outcome(Call call) {
    try {
      Object answer = call.answer();
      if (answer instanceof Double) {
        double number = (Double) answer + 0.0;
        return number + " (" + Long.toHexString(Double.doubleToRawLongBits(number)) + ")";
      }
      return String.valueOf(answer);
    } catch (RuntimeException thrown) {
      return "throws " + thrown.getClass().getSimpleName();
    }
  }

  static void same(String what, String got, String due) {
    if (!got.equals(due)) {
      wrong++;
      if (wrong <= 40) {
        System.out.println(what + " answered " + got + ", due is " + due);
      }
    }
  }

  /** Lines that must be the same; the first that is not is told. */
  static void sameLines(String what, List<String> got, List<String> due) {
    for (int line = 0; line < Math.min(got.size(), due.size()); line++) {
      if (!got.get(line).equals(due.get(line))) {
        same(what + ", line " + line, got.get(line), due.get(line));
        return;
      }
    }
    same(what + ", lines", String.valueOf(got.size()), String.valueOf(due.size()));
  }

  static void due(String what, Call call, Object due) {
    same(what, outcome(call), outcome(() -> due));
  }

  static void index(String what, Call call) {
    same(what, outcome(call), "throws IndexOutOfBoundsException");
  }

  static void argument(String what, Call call) {
    same(what, outcome(call), "throws IllegalArgumentException");
  }

  static void state(String what, Call call) {
    same(what, outcome(call), "throws IllegalStateException");
  }

  static void end(String test) {
    System.out.println(test + ": " + (wrong == 0 ? "all is as due" : wrong + " answers are not as due"));
    if (wrong != 0) {
      System.exit(1);
    }
  }
}
