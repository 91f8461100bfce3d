import java.io.IOException;
import java.nio.file.Files;
import java.nio.file.Path;
import java.util.ArrayList;
import java.util.List;

/** The example of README.md, line by line, and that it does what README.md says beside it. */
public final class ReadmeTest {
  public static void main(String[] args) throws IOException {
    example();
    exampleIsThatOfTheReadme();
    Check.end("ReadmeTest");
  }

  private static void example() {
    DuctBalance shop = new DuctBalance();
    int far = shop.joint();
    int duct = shop.duct(0, far, 1.0, 2.0);
    int saw = shop.machine(far, 128.0);
    shop.use(0, saw, true);
    shop.fan(64.0, 0.0);
    Check.due("numbers", () -> far + " " + duct + " " + saw, "1 0 0");

    int rounds = shop.solve(0);
    double pressure = shop.at(far, 0);
    double flow = shop.of(duct, 0);
    double gate = shop.draws(saw, 0);
    boolean isFast = shop.keeps(20.0);
    Check.due("rounds", () -> rounds, 14);
    Check.due("the fan draws air", () -> pressure < 0 && flow < 0, true);
    Check.due("the gate closed to a third", () -> gate > 0.333 && gate < 0.334, true);
    Check.due("it is fast", () -> isFast, true);

    int wide = shop.list(2.0, 900);
    int narrow = shop.list(1.5, 600);
    int tight = shop.list(0.5, 100);
    int chosen = shop.size(0);
    Check.due("the sizes", () -> wide + " " + narrow + " " + tight, "0 1 2");
    Check.due("the one chosen", () -> chosen, narrow);
    Check.due("the saw has enough of it", () -> shop.draws(saw, 1) >= 128 * 0.9375, true);

    shop.read(duct, 132.0);
    double left = shop.fit(8);
    double leak = shop.of(duct, 3);
    double missed = 132 + shop.of(duct, 0);
    Check.due("something leaks", () -> missed > 1, true);
    Check.due("the leak comes near to it", () -> leak > missed * 0.99 && leak < missed, true);
    Check.due("little is left", () -> left < missed * missed / 60000, true);
  }

  private static void exampleIsThatOfTheReadme() throws IOException {
    List<String> shown = new ArrayList<>();
    boolean isCode = false;
    for (String line : Files.readAllLines(Path.of("README.md"))) {
      if (line.startsWith("```")) {
        isCode = line.equals("```java");
      } else if (isCode) {
        shown.add(line.replaceAll(" *//.*", ""));
      }
    }
    List<String> run = Files.readAllLines(Path.of("src/test/java/ReadmeTest.java")).stream().map(String::strip)
        .filter(shown::contains).toList();
    Check.due("the readme has an example", () -> shown.size() > 10, true);
    Check.sameLines("the example is the one that was run", run, shown);
  }
}
