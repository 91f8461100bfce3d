import java.util.ArrayList;
import java.util.List;

/** What an object answers, a line for each question; all of them together stay well below 512 calls. */
final class Look {
  private final List<String> lines = new ArrayList<>();
  private final DuctBalance x;

  private Look(DuctBalance x) {
    this.x = x;
  }

  /** All that can be asked without telling anything. */
  static List<String> now(DuctBalance x) {
    Look look = new Look(x);
    for (int what = 0; what < 4; what++) {
      int asked = what;
      look.ask("count " + asked, () -> x.count(asked));
    }
    look.askAll("at", 2, x.count(0), x::at);
    look.askAll("of", 4, x.count(1), x::of);
    look.askAll("draws", 2, x.count(2), x::draws);
    look.ask("keeps 0", () -> x.keeps(0));
    look.ask("keeps 1", () -> x.keeps(1));
    look.ask("fit 0", () -> x.fit(0));
    return look.lines;
  }

  /** What shows only in what comes after: the next of each, every case solved and one sized, a leak fitted. */
  static List<String> later(DuctBalance x) {
    Look look = new Look(x);
    look.ask("joint", x::joint);
    look.ask("duct", () -> x.duct(0, 1, 1, 1));
    look.ask("machine", () -> x.machine(1, 1));
    look.ask("list", () -> x.list(1, 15));
    for (int caseOf = 0; caseOf < 4; caseOf++) {
      int asked = caseOf;
      look.ask("solve " + asked, () -> x.solve(asked));
      look.askOne("at", 0, x.count(0), x::at);
      look.askOne("draws", 0, x.count(2), x::draws);
    }
    look.ask("size", () -> x.size(1));
    look.askOne("of", 2, x.count(1), x::of);
    look.ask("fit", () -> x.fit(1));
    look.askOne("of", 3, x.count(1), x::of);
    return look.lines;
  }

  private interface Question {
    double answer(int number, int what);
  }

  private void ask(String what, Check.Call call) {
    lines.add(what + ": " + Check.outcome(call));
  }

  private void askAll(String name, int whats, int bound, Question question) {
    for (int what = 0; what < whats; what++) {
      askOne(name, what, bound, question);
    }
  }

  private void askOne(String name, int what, int bound, Question question) {
    for (int number = 0; number < bound; number++) {
      int asked = number;
      ask(name + " " + asked + " " + what, () -> question.answer(asked, what));
    }
  }
}
