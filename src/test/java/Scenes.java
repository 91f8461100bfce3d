/** Objects that tests begin with: small ones to reckon with, and one for each state that a call may find. */
final class Scenes {
  interface Scene {
    DuctBalance make();
  }

  private Scenes() {}

  static DuctBalance empty() {
    return new DuctBalance();
  }

  static DuctBalance emptySolved() {
    DuctBalance x = new DuctBalance();
    x.solve(0);
    return x;
  }

  /** A tree of four joints, three machines of which two run in case 1, a list, readings and leaks. */
  static DuctBalance solved() {
    DuctBalance x = withoutList();
    x.list(1.5, 20);
    x.list(2, 20);
    x.list(1, 10);
    return x;
  }

  static DuctBalance withoutList() {
    DuctBalance x = new DuctBalance();
    x.joint();
    x.joint();
    x.joint();
    x.duct(0, 1, 1, 2);
    x.duct(1, 2, 2, 1.5);
    x.duct(3, 1, 1, 1.25);
    x.machine(2, 16);
    x.machine(3, 64);
    x.machine(2, 8);
    x.use(0, 0, true);
    x.use(1, 0, true);
    x.use(1, 1, true);
    x.use(3, 2, true);
    x.fan(100, 0.0625);
    x.read(0, 200);
    x.read(2, 3);
    x.solve(1);
    x.fit(2);
    return x;
  }

  static DuctBalance toldSince() {
    DuctBalance x = solved();
    x.use(1, 1, true);
    return x;
  }

  static DuctBalance neverSolved() {
    DuctBalance x = new DuctBalance();
    x.joint();
    x.duct(0, 1, 1, 2);
    x.machine(1, 16);
    x.use(0, 0, true);
    return x;
  }

  static DuctBalance failed() {
    DuctBalance x = solved();
    x.fan(1000, 1000);
    x.solve(1);
    return x;
  }

  /** As many of each as there is room for; every joint hangs on the fan, and 8 ducts lie beside others. */
  static DuctBalance full() {
    DuctBalance x = new DuctBalance();
    for (int joint = 1; joint <= 9; joint++) {
      x.joint();
    }
    for (int duct = 0; duct < 16; duct++) {
      int end = duct % 9 + 1;
      x.duct(duct % 2 == 0 ? end : 0, duct % 2 == 0 ? 0 : end, 1 + duct % 3, 1 + duct % 4 * 0.25);
    }
    for (int machine = 0; machine < 8; machine++) {
      x.machine(9 - machine, 8 << machine % 4);
      x.use(machine % 4, machine, true);
      x.use(1, machine, true);
    }
    for (int size = 0; size < 6; size++) {
      x.list(0.75 + size * 0.125, size % 2 == 0 ? 0 : 1000000);
    }
    x.fan(100, 0.03125);
    x.read(0, 100);
    x.read(15, 0);
    x.solve(1);
    x.fit(1);
    return x;
  }

  static DuctBalance fullToldSince() {
    DuctBalance x = full();
    x.fan(100, 0.03125);
    return x;
  }

  /**
   * A duct of EASE 8 to a machine that is used in case 0: half the fan's pressure stands at it, and it draws 4 times
   * the fan's strength.
   */
  static DuctBalance half(double strength, double fall, double need) {
    DuctBalance x = new DuctBalance();
    x.joint();
    x.duct(0, 1, 1, 2);
    x.machine(1, need);
    x.use(0, 0, true);
    x.fan(strength, fall);
    return x;
  }

  static DuctBalance solvedHalf() {
    DuctBalance x = half(64, 0, 1000);
    x.solve(0);
    return x;
  }

  /** A duct of EASE 1 and behind it a wider one to a machine: the wider, the slower its rounds. */
  static DuctBalance chain(double width, double need) {
    DuctBalance x = new DuctBalance();
    x.joint();
    x.joint();
    x.duct(0, 1, 1, 1);
    x.duct(1, 2, 1, width);
    x.machine(2, need);
    x.use(0, 0, true);
    x.fan(64, 0);
    return x;
  }

  /** A duct of EASE 1 and behind it a dead end: half the fan's pressure comes in the first round. */
  static DuctBalance weak(double strength, double fall) {
    DuctBalance x = new DuctBalance();
    x.joint();
    x.joint();
    x.duct(0, 1, 1, 1);
    x.duct(1, 2, 1, 1);
    x.fan(strength, fall);
    return x;
  }
}
