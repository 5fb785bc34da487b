import java.util.NoSuchElementException;
import java.util.function.Consumer;

/** The promises one by one: ordinary inputs, the edges that the document names, wrong inputs. */
public final class PromiseTest {
  private static final int MIN = Integer.MIN_VALUE;
  private static final int MAX = Integer.MAX_VALUE;
  private static final Class<? extends RuntimeException> INDEX = IndexOutOfBoundsException.class;
  private static final Class<? extends RuntimeException> ARGUMENT = IllegalArgumentException.class;
  private static final Class<? extends RuntimeException> STATE = IllegalStateException.class;
  private static final Class<? extends RuntimeException> UNSUPPORTED =
      UnsupportedOperationException.class;
  private static final Class<? extends RuntimeException> MISSING = NoSuchElementException.class;
  private static final Class<? extends RuntimeException> ARITHMETIC = ArithmeticException.class;

  private static int wrong = 0;
  private static int checks = 0;

  private interface Call {
    Object make();
  }

  private static void due(int promise, String what, Object got, Object want) {
    checks++;
    if (!got.equals(want)) {
      wrong++;
      System.out.println("promise " + promise + ": " + what + " answered " + got + ", due is " + want);
    }
  }

  private static void fails(
      int promise, String what, Class<? extends RuntimeException> want, Call call) {
    Object got;
    try {
      got = "answer " + call.make();
    } catch (RuntimeException e) {
      got = e.getClass();
    }
    due(promise, what, got, want);
  }

  /** What can be seen of a show without changing it, but for its line and its pads. */
  private static String view(DroneLightShow show) {
    StringBuilder text = new StringBuilder();
    text.append("t").append(show.now());
    for (int d = 0; d < show.droneCount(); d++) {
      text.append(" d").append(show.cellOf(d)).append('/').append(show.battery(d));
      text.append('/').append(show.colour(d)).append(show.isFlying(d) ? "F" : "G");
      text.append(show.isInEmergency(d) ? "E" : "").append(targetOf(show, d));
    }
    for (int f = 0; f < 4; f++) {
      text.append(" f").append(show.formationMask(f));
    }
    text.append(" c").append(show.cueCount());
    text.append(show.cueCount() > 0 ? " n" + show.nextCueTime() : "");
    text.append(" m").append(show.movedTotal()).append(" b").append(show.blockedTotal());
    text.append(" e").append(show.emergencyTotal()).append(" l").append(show.forcedTotal());
    return text.toString();
  }

  private static int targetOf(DroneLightShow show, int drone) {
    try {
      return show.target(drone);
    } catch (NoSuchElementException e) {
      return -1;
    }
  }

  private static DroneLightShow withDrones(int... cells) {
    DroneLightShow show = new DroneLightShow();
    for (int cell : cells) {
      show.addDrone(cell);
    }
    return show;
  }

  private static DroneLightShow withFlying(int... cells) {
    DroneLightShow show = withDrones(cells);
    for (int d = 0; d < cells.length; d++) {
      show.takeOff(d);
    }
    return show;
  }

  private static void ticks(DroneLightShow show, int count) {
    for (int left = count; left > 0; left -= 30) {
      show.advance(Math.min(left, 30));
    }
  }

  private static void type(DroneLightShow show, String text) {
    for (int k = 0; k < text.length(); k++) {
      show.append(text.charAt(k));
    }
  }

  private static String row(DroneLightShow show, int row) {
    StringBuilder text = new StringBuilder();
    int length = show.describeRow(row);
    for (int k = 0; k < length; k++) {
      text.append(show.lineAt(k));
    }
    return text.toString();
  }

  public static void main(String[] args) {
    newObject();
    addDrone();
    addPad();
    takeOff();
    land();
    sendTo();
    setReserve();
    droneQueries();
    target();
    droneAt();
    isPad();
    nearestPad();
    formations();
    assign();
    masks();
    coverage();
    advance();
    moves();
    batteries();
    emergencies();
    forcedLandings();
    charging();
    wantedCell();
    conflicts();
    ranks();
    batteryAfter();
    cues();
    totals();
    append();
    run();
    runCallsEveryCommand();
    errorPositions();
    staleText();
    failedCommand();
    describeRow();
    meanBatteryBits();
    meanDistance();
    isConsistent();
    fullHouse();
    undo();
    undoOfEveryChange();
    undoLeavesAlone();
    blockedTotalsAreUndoneAndRestored();
    saveAndRestore();
    System.out.println(checks + " checks, " + wrong + " wrong");
    if (wrong != 0) {
      System.exit(1);
    }
  }

  private static void newObject() {
    DroneLightShow show = new DroneLightShow();
    due(1, "view", view(show), "t0 f0 f0 f0 f0 c0 m0 b0 e0 l0");
    due(1, "occupiedMask", show.occupiedMask(), 0L);
    fails(1, "lineAt(0) of the empty line", INDEX, () -> show.lineAt(0));
    fails(1, "undo", STATE, show::undo);
    fails(1, "restore", STATE, show::restore);
    fails(1, "errorPosition", MISSING, show::errorPosition);
    fails(1, "failedCommand", MISSING, show::failedCommand);
    due(1, "append", show.append('x'), 1);
    due(1, "initial reserve", show.setReserve(20), 10);
  }

  private static void addDrone() {
    DroneLightShow show = new DroneLightShow();
    due(2, "addDrone(0)", show.addDrone(0), 0);
    due(2, "addDrone(63)", show.addDrone(63), 1);
    due(2, "battery", show.battery(1), 100);
    due(2, "colour", show.colour(1), 0);
    due(2, "isFlying", show.isFlying(1), false);
    due(2, "cellOf", show.cellOf(1), 63);
    for (int cell : new int[] {-1, 64, MIN, MAX}) {
      fails(2, "addDrone(" + cell + ")", INDEX, () -> show.addDrone(cell));
    }
    fails(2, "addDrone in a taken cell", UNSUPPORTED, () -> show.addDrone(63));
    for (int d = 2; d < 10; d++) {
      due(2, "addDrone", show.addDrone(d), d);
    }
    fails(2, "an eleventh drone", STATE, () -> show.addDrone(20));
    fails(2, "an eleventh drone in a taken cell", STATE, () -> show.addDrone(0));
    fails(2, "an eleventh drone in no cell", INDEX, () -> show.addDrone(64));
  }

  private static void addPad() {
    DroneLightShow show = withDrones(5);
    due(3, "addPad(5) below a drone", show.addPad(5), 1);
    due(3, "addPad(0)", show.addPad(0), 2);
    fails(3, "a pad twice", ARGUMENT, () -> show.addPad(5));
    due(3, "addPad(63)", show.addPad(63), 3);
    due(3, "addPad(31)", show.addPad(31), 4);
    for (int cell : new int[] {-1, 64, MIN, MAX}) {
      fails(3, "addPad(" + cell + ")", INDEX, () -> show.addPad(cell));
    }
    fails(3, "a pad twice among four", ARGUMENT, () -> show.addPad(63));
    fails(3, "a fifth pad", STATE, () -> show.addPad(6));
  }

  private static void takeOff() {
    DroneLightShow show = withDrones(0, 1);
    due(4, "takeOff(1)", show.takeOff(1), 1);
    due(4, "isFlying(1)", show.isFlying(1), true);
    due(4, "isFlying(0)", show.isFlying(0), false);
    due(4, "target", targetOf(show, 1), -1);
    due(4, "isInEmergency", show.isInEmergency(1), false);
    due(4, "takeOff(0)", show.takeOff(0), 2);
    fails(4, "takeOff of a flying drone", STATE, () -> show.takeOff(0));
    for (int drone : new int[] {-1, 2, 10, MIN, MAX}) {
      fails(4, "takeOff(" + drone + ")", INDEX, () -> show.takeOff(drone));
    }
    DroneLightShow weak = withFlying(0);
    ticks(weak, 90);
    due(4, "forced down", weak.battery(0) + " " + weak.isFlying(0), "10 false");
    fails(4, "takeOff with the reserve", UNSUPPORTED, () -> weak.takeOff(0));
    weak.setReserve(11);
    fails(4, "takeOff below the reserve", UNSUPPORTED, () -> weak.takeOff(0));
    weak.setReserve(9);
    due(4, "takeOff above the reserve", weak.takeOff(0), 1);
    weak.setReserve(30);
    fails(4, "takeOff of a flying weak drone", STATE, () -> weak.takeOff(0));
  }

  private static void land() {
    DroneLightShow show = withFlying(9, 10);
    show.addPad(9);
    show.sendTo(0, 20);
    for (int drone : new int[] {-1, 2, 10, MIN, MAX}) {
      fails(5, "land(" + drone + ")", INDEX, () -> show.land(drone));
    }
    fails(5, "land beside a pad", UNSUPPORTED, () -> show.land(1));
    due(5, "land(0)", show.land(0), 1);
    due(5, "isFlying", show.isFlying(0), false);
    due(5, "target", targetOf(show, 0), -1);
    fails(5, "land of a grounded drone", STATE, () -> show.land(0));
    DroneLightShow off = withDrones(3);
    fails(5, "land of a grounded drone off a pad", STATE, () -> off.land(0));
    DroneLightShow urgent = emergencyAbove();
    due(5, "land in an emergency", urgent.land(0), 0);
    due(5, "emergency ended", urgent.isInEmergency(0), false);
    due(5, "no target", targetOf(urgent, 0), -1);
    due(5, "no forced landing", urgent.forcedTotal(), 0);
  }

  /** Drone 0 is in an emergency in the cell 0, which became a pad after it was sent to 63. */
  private static DroneLightShow emergencyAbove() {
    DroneLightShow show = withFlying(0);
    show.addPad(63);
    ticks(show, 90);
    due(5, "in emergency", show.isInEmergency(0) + " " + targetOf(show, 0), "true 63");
    show.addPad(show.cellOf(0));
    return show;
  }

  private static void sendTo() {
    DroneLightShow show = withFlying(0, 63);
    show.addDrone(7);
    due(6, "sendTo(0, 63)", show.sendTo(0, 63), 14);
    due(6, "target", show.target(0), 63);
    due(6, "sendTo(0, 10)", show.sendTo(0, 10), 3);
    due(6, "a new target", show.target(0), 10);
    due(6, "sendTo(1, 0)", show.sendTo(1, 0), 14);
    due(6, "sendTo(1, 58)", show.sendTo(1, 58), 5);
    due(6, "to its own cell", show.sendTo(1, 63), 0);
    due(6, "own cell as target", show.target(1), 63);
    for (int bad : new int[] {-1, 64, MIN, MAX}) {
      fails(6, "sendTo(0, " + bad + ")", INDEX, () -> show.sendTo(0, bad));
      fails(6, "sendTo(" + bad + ", 0)", INDEX, () -> show.sendTo(bad, 0));
      fails(6, "sendTo(2, " + bad + ") grounded", INDEX, () -> show.sendTo(2, bad));
    }
    fails(6, "sendTo(3, 0)", INDEX, () -> show.sendTo(3, 0));
    fails(6, "sendTo of a grounded drone", STATE, () -> show.sendTo(2, 0));
    DroneLightShow urgent = emergencyAbove();
    fails(6, "sendTo in an emergency", STATE, () -> urgent.sendTo(0, 5));
  }

  private static void setReserve() {
    DroneLightShow show = new DroneLightShow();
    due(7, "setReserve(5)", show.setReserve(5), 10);
    due(7, "setReserve(30)", show.setReserve(30), 5);
    for (int bad : new int[] {4, 31, 0, -5, MIN, MAX}) {
      fails(7, "setReserve(" + bad + ")", ARGUMENT, () -> show.setReserve(bad));
    }
    due(7, "setReserve(30) again", show.setReserve(30), 30);
  }

  private static void droneQueries() {
    DroneLightShow show = new DroneLightShow();
    due(8, "droneCount of none", show.droneCount(), 0);
    fails(9, "cellOf(0) of none", INDEX, () -> show.cellOf(0));
    show.addDrone(17);
    show.addDrone(42);
    due(8, "droneCount", show.droneCount(), 2);
    show.takeOff(1);
    show.sendTo(1, 43);
    show.cueColour(1, 1, 7);
    show.advance(2);
    due(9, "cellOf(0)", show.cellOf(0), 17);
    due(9, "cellOf(1)", show.cellOf(1), 43);
    due(10, "battery(0)", show.battery(0), 100);
    due(10, "battery(1)", show.battery(1), 97);
    due(11, "isFlying(0)", show.isFlying(0), false);
    due(11, "isFlying(1)", show.isFlying(1), true);
    due(12, "isInEmergency(1)", show.isInEmergency(1), false);
    due(12, "isInEmergency in one", emergencyAbove().isInEmergency(0), true);
    due(14, "colour(0)", show.colour(0), 0);
    due(14, "colour(1)", show.colour(1), 7);
    for (int bad : new int[] {-1, 2, 10, MIN, MAX}) {
      fails(9, "cellOf(" + bad + ")", INDEX, () -> show.cellOf(bad));
      fails(10, "battery(" + bad + ")", INDEX, () -> show.battery(bad));
      fails(11, "isFlying(" + bad + ")", INDEX, () -> show.isFlying(bad));
      fails(12, "isInEmergency(" + bad + ")", INDEX, () -> show.isInEmergency(bad));
      fails(13, "target(" + bad + ")", INDEX, () -> show.target(bad));
      fails(14, "colour(" + bad + ")", INDEX, () -> show.colour(bad));
      fails(17, "nearestPad(" + bad + ")", INDEX, () -> show.nearestPad(bad));
      fails(18, "nearestPadByRings(" + bad + ")", INDEX, () -> show.nearestPadByRings(bad));
      fails(29, "wantedCell(" + bad + ")", INDEX, () -> show.wantedCell(bad));
    }
  }

  private static void target() {
    DroneLightShow show = withDrones(0);
    fails(13, "target of a grounded drone", MISSING, () -> show.target(0));
    show.takeOff(0);
    fails(13, "target of a drone without one", MISSING, () -> show.target(0));
    show.sendTo(0, 2);
    due(13, "target", show.target(0), 2);
    show.advance(5);
    due(13, "target after the arrival", show.target(0), 2);
  }

  private static void droneAt() {
    DroneLightShow show = withFlying(0, 63);
    show.addDrone(8);
    due(15, "droneAt(0)", show.droneAt(0), 0);
    due(15, "droneAt(63)", show.droneAt(63), 1);
    due(15, "droneAt(8) grounded", show.droneAt(8), 2);
    fails(15, "droneAt(1)", MISSING, () -> show.droneAt(1));
    for (int bad : new int[] {-1, 64, MIN, MAX}) {
      fails(15, "droneAt(" + bad + ")", INDEX, () -> show.droneAt(bad));
      fails(16, "isPad(" + bad + ")", INDEX, () -> show.isPad(bad));
    }
  }

  private static void isPad() {
    DroneLightShow show = new DroneLightShow();
    show.addPad(63);
    show.addPad(0);
    show.addPad(32);
    for (int cell = 0; cell < 64; cell++) {
      due(16, "isPad(" + cell + ")", show.isPad(cell), cell == 0 || cell == 32 || cell == 63);
    }
  }

  private static void nearestPad() {
    DroneLightShow show = withDrones(27);
    fails(17, "nearestPad without pads", MISSING, () -> show.nearestPad(0));
    fails(18, "nearestPadByRings without pads", MISSING, () -> show.nearestPadByRings(0));
    int[][] pads = {{63, 63}, {7, 7}, {45, 45}, {9, 9}};
    for (int[] pad : pads) {
      show.addPad(pad[0]);
      due(17, "nearestPad after " + pad[0], show.nearestPad(0), pad[1]);
      due(18, "nearestPadByRings after " + pad[0], show.nearestPadByRings(0), pad[1]);
    }
    nearestOf(27, 26, new int[] {28, 26, 35, 0});
    nearestOf(27, 19, new int[] {28, 26, 35, 19});
    nearestOf(27, 27, new int[] {0, 27});
    nearestOf(0, 63, new int[] {63});
    nearestOf(63, 0, new int[] {0});
    nearestOf(7, 56, new int[] {56});
    nearestOf(56, 7, new int[] {7});
    nearestOf(0, 2, new int[] {16, 9, 2});
    nearestOf(8, 15, new int[] {7, 63, 15});
    nearestOf(7, 6, new int[] {8, 6});
    nearestOf(8, 6, new int[] {7, 6});
  }

  private static void nearestOf(int cell, int want, int[] pads) {
    DroneLightShow show = withDrones(cell);
    for (int pad : pads) {
      show.addPad(pad);
    }
    due(17, "nearestPad of " + cell, show.nearestPad(0), want);
    due(18, "nearestPadByRings of " + cell, show.nearestPadByRings(0), want);
  }

  private static void formations() {
    DroneLightShow show = new DroneLightShow();
    due(19, "addToFormation(3, 63)", show.addToFormation(3, 63), 1);
    due(19, "addToFormation(3, 0)", show.addToFormation(3, 0), 2);
    due(19, "the same cell elsewhere", show.addToFormation(0, 0), 1);
    due(22, "formationMask(3)", show.formationMask(3), 1L << 63 | 1L);
    due(22, "formationMask(0)", show.formationMask(0), 1L);
    due(22, "formationMask(1)", show.formationMask(1), 0L);
    fails(19, "a cell twice", ARGUMENT, () -> show.addToFormation(3, 63));
    for (int bad : new int[] {-1, 4, MIN, MAX}) {
      fails(19, "addToFormation(" + bad + ", 0)", INDEX, () -> show.addToFormation(bad, 0));
      fails(20, "clearFormation(" + bad + ")", INDEX, () -> show.clearFormation(bad));
      fails(21, "assign(" + bad + ")", INDEX, () -> show.assign(bad));
      fails(22, "formationMask(" + bad + ")", INDEX, () -> show.formationMask(bad));
      fails(24, "matchCount(" + bad + ")", INDEX, () -> show.matchCount(bad));
      fails(25, "matchCountByScan(" + bad + ")", INDEX, () -> show.matchCountByScan(bad));
      fails(26, "coverage(" + bad + ")", INDEX, () -> show.coverage(bad));
    }
    for (int bad : new int[] {-1, 64, MIN, MAX}) {
      fails(19, "addToFormation(0, " + bad + ")", INDEX, () -> show.addToFormation(0, bad));
    }
    for (int cell = 1; cell < 9; cell++) {
      due(19, "addToFormation", show.addToFormation(3, cell), cell + 2);
    }
    fails(19, "an eleventh cell", STATE, () -> show.addToFormation(3, 40));
    fails(19, "a cell twice among ten", ARGUMENT, () -> show.addToFormation(3, 8));
    due(20, "clearFormation(3)", show.clearFormation(3), 10);
    due(20, "clearFormation(3) again", show.clearFormation(3), 0);
    due(20, "the mask afterwards", show.formationMask(3), 0L);
    due(20, "the other formation", show.formationMask(0), 1L);
    due(20, "room again", show.addToFormation(3, 40), 1);
  }

  private static void assign() {
    DroneLightShow show = withFlying(0, 7, 56);
    show.addDrone(9);
    fails(21, "assign of an empty formation", STATE, () -> show.assign(1));
    show.sendTo(2, 5);
    show.addToFormation(1, 62);
    show.addToFormation(1, 1);
    due(21, "two cells for three drones", show.assign(1), 2);
    due(21, "targets", targets(show), "1 -1 62 -1");
    show.addToFormation(1, 8);
    show.addToFormation(1, 20);
    due(21, "four cells for three drones", show.assign(1), 3);
    due(21, "targets, the cells in ascending order", targets(show), "1 20 8 -1");
    DroneLightShow tie = withFlying(2, 0);
    tie.addToFormation(0, 1);
    due(21, "a tie", tie.assign(0), 1);
    due(21, "the lowest number wins a tie", targets(tie), "1 -1");
    DroneLightShow grounded = withDrones(4);
    grounded.addToFormation(2, 4);
    due(21, "grounded drones take no part", grounded.assign(2), 0);
    due(21, "no target", targets(grounded), "-1");
    DroneLightShow urgent = emergencyAbove();
    urgent.addDrone(1);
    urgent.takeOff(1);
    urgent.addToFormation(0, 0);
    due(21, "drones in an emergency take no part", urgent.assign(0), 1);
    due(21, "the emergency's target stays", targets(urgent), "63 0");
  }

  private static String targets(DroneLightShow show) {
    StringBuilder text = new StringBuilder();
    for (int d = 0; d < show.droneCount(); d++) {
      text.append(d == 0 ? "" : " ").append(targetOf(show, d));
    }
    return text.toString();
  }

  private static void masks() {
    DroneLightShow show = withFlying(0, 63, 31, 32);
    show.addDrone(40);
    due(23, "occupiedMask", show.occupiedMask(), 1L | 1L << 63 | 1L << 31 | 1L << 32 | 1L << 40);
    for (int cell : new int[] {0, 63, 31, 32, 40, 41}) {
      show.addToFormation(2, cell);
    }
    due(24, "matchCount without grounded drones", show.matchCount(2), 4);
    due(25, "matchCountByScan", show.matchCountByScan(2), 4);
    due(24, "matchCount of an empty formation", show.matchCount(1), 0);
    due(25, "matchCountByScan of an empty formation", show.matchCountByScan(1), 0);
    show.takeOff(4);
    show.sendTo(4, 41);
    show.advance(1);
    due(23, "occupiedMask after a move", (show.occupiedMask() >>> 40) & 3L, 2L);
    due(24, "matchCount after a move", show.matchCount(2), 5);
    due(25, "matchCountByScan after a move", show.matchCountByScan(2), 5);
  }

  private static void coverage() {
    DroneLightShow show = withFlying(0, 1);
    fails(26, "coverage of no cells", ARITHMETIC, () -> show.coverage(0));
    show.addToFormation(0, 5);
    due(26, "coverage 0 of 1", show.coverage(0), 0f);
    show.addToFormation(0, 0);
    show.addToFormation(0, 1);
    due(26, "coverage 2 of 3", show.coverage(0), 2f / 3f);
    show.addPad(0);
    show.land(0);
    due(26, "coverage 1 of 3", show.coverage(0), 1f / 3f);
  }

  private static void advance() {
    DroneLightShow show = withFlying(0, 56);
    for (int bad : new int[] {0, 31, -1, MIN, MAX}) {
      fails(27, "advance(" + bad + ")", ARGUMENT, () -> show.advance(bad));
    }
    due(28, "now", show.now(), 0);
    due(27, "advance(1) without targets", show.advance(1), 0);
    due(28, "now", show.now(), 1);
    show.sendTo(0, 3);
    show.sendTo(1, 57);
    due(27, "advance(2)", show.advance(2), 3);
    due(27, "advance(30)", show.advance(30), 1);
    due(28, "now", show.now(), 33);
    due(27, "cells", show.cellOf(0) + " " + show.cellOf(1), "3 57");
  }

  private static void moves() {
    DroneLightShow show = withFlying(0);
    show.sendTo(0, 17);
    String path = "";
    for (int k = 0; k < 4; k++) {
      show.advance(1);
      path += show.cellOf(0) + " ";
    }
    due(27, "rows first", path, "8 16 17 17 ");
    show.sendTo(0, 0);
    path = "";
    for (int k = 0; k < 4; k++) {
      show.advance(1);
      path += show.cellOf(0) + " ";
    }
    due(27, "rows first on the way back", path, "9 1 0 0 ");
    DroneLightShow aside = withFlying(0);
    aside.addDrone(8);
    aside.sendTo(0, 17);
    due(27, "aside round a grounded drone", aside.advance(1), 1);
    due(27, "aside", aside.cellOf(0) + " " + aside.battery(0) + " " + aside.blockedTotal(), "1 98 0");
    DroneLightShow west = withFlying(7);
    west.addDrone(15);
    west.sendTo(0, 20);
    west.advance(1);
    due(27, "aside to the west", west.cellOf(0), 6);
    DroneLightShow wall = withFlying(0);
    wall.addDrone(8);
    wall.sendTo(0, 16);
    due(27, "no way aside in the same column", wall.advance(3), 0);
    due(27, "blocked thrice", wall.cellOf(0) + " " + wall.blockedTotal(), "0 3");
    DroneLightShow flat = withFlying(0);
    flat.addDrone(1);
    flat.sendTo(0, 2);
    flat.advance(1);
    due(27, "no way aside in the same row", flat.cellOf(0) + " " + flat.blockedTotal(), "0 1");
    DroneLightShow both = withFlying(0);
    both.addDrone(8);
    both.addDrone(1);
    both.sendTo(0, 9);
    both.advance(1);
    due(27, "blocked both ways", both.cellOf(0) + " " + both.blockedTotal(), "0 1");
    DroneLightShow queue = withFlying(1, 0);
    queue.sendTo(0, 2);
    queue.sendTo(1, 1);
    due(27, "a cell left by a lower number is free", queue.advance(1), 2);
    DroneLightShow late = withFlying(0, 1);
    late.sendTo(0, 1);
    late.sendTo(1, 2);
    due(27, "a cell left by a higher number is not", late.advance(1), 1);
    due(27, "cells", late.cellOf(0) + " " + late.cellOf(1), "0 2");
  }

  private static void batteries() {
    DroneLightShow show = withFlying(0, 10);
    show.addDrone(63);
    show.sendTo(0, 2);
    show.advance(3);
    due(27, "batteries", show.battery(0) + " " + show.battery(1) + " " + show.battery(2), "95 97 100");
    DroneLightShow odd = withFlying(0);
    odd.addPad(56);
    odd.addDrone(8);
    odd.setReserve(5);
    ticks(odd, 95);
    due(27, "in an emergency at 5", odd.battery(0) + " " + odd.isInEmergency(0), "5 true");
    odd.advance(4);
    due(27, "still at 1 behind a grounded drone", odd.battery(0) + " " + odd.isFlying(0), "1 true");
    odd.advance(1);
    due(27, "down at 0", odd.battery(0) + " " + odd.isFlying(0) + " " + odd.forcedTotal(), "0 false 1");
    due(27, "its emergency has ended", odd.isInEmergency(0) + " " + targetOf(odd, 0), "false -1");
    odd.advance(1);
    due(27, "no less than 0", odd.battery(0), 0);
  }

  private static void emergencies() {
    DroneLightShow show = withFlying(0, 20);
    show.addPad(63);
    show.addPad(4);
    show.setReserve(30);
    show.sendTo(1, 20);
    ticks(show, 69);
    due(39, "no emergency at 31", show.emergencyTotal() + " " + show.isInEmergency(0), "0 false");
    show.advance(1);
    due(39, "two emergencies at 30", show.emergencyTotal(), 2);
    due(27, "to the nearest pads", targets(show), "4 4");
    due(27, "no forced landing", show.forcedTotal(), 0);
    due(27, "moves to the pad", show.advance(2), 4);
    due(27, "the nearer one is down and charged", show.isFlying(1) + " " + show.battery(1), "false 31");
    due(27, "its emergency is over", show.isInEmergency(1) + " " + targetOf(show, 1), "false -1");
    show.advance(10);
    due(27, "the other one waits beside", show.cellOf(0) + " " + show.isFlying(0), "3 true");
    due(39, "an emergency counts once", show.emergencyTotal(), 2);
    DroneLightShow above = withFlying(9);
    above.addPad(9);
    above.setReserve(30);
    ticks(above, 70);
    due(27, "an emergency over a pad ends at once", above.isFlying(0) + " " + above.battery(0), "false 35");
    due(39, "and counts", above.emergencyTotal() + " " + above.forcedTotal(), "1 0");
  }

  private static void forcedLandings() {
    DroneLightShow show = withFlying(0, 1);
    show.sendTo(0, 0);
    ticks(show, 89);
    due(40, "none at 11", show.forcedTotal(), 0);
    show.advance(1);
    due(40, "two at 10", show.forcedTotal() + " " + show.emergencyTotal(), "2 0");
    due(40, "grounded in its cell", show.isFlying(0) + " " + show.cellOf(0), "false 0");
    due(40, "without a target", targetOf(show, 0), -1);
    show.advance(5);
    due(40, "it loses no more", show.battery(0) + " " + show.forcedTotal(), "10 2");
    DroneLightShow pad = withFlying(0);
    pad.addPad(4);
    pad.setReserve(5);
    ticks(pad, 92);
    due(27, "battery", pad.battery(0), 8);
    pad.sendTo(0, 0);
    pad.advance(3);
    due(27, "in an emergency at 5", pad.battery(0) + " " + pad.isInEmergency(0), "5 true");
    pad.advance(2);
    due(27, "one percent left", pad.battery(0) + " " + pad.cellOf(0), "1 2");
    pad.advance(1);
    due(40, "not below 0, down beside the pad", pad.battery(0) + " " + pad.cellOf(0), "0 3");
    due(40, "forced", pad.forcedTotal() + " " + pad.isFlying(0), "1 false");
    DroneLightShow exact = withFlying(0);
    exact.addPad(3);
    exact.setReserve(5);
    ticks(exact, 95);
    exact.advance(3);
    due(40, "on the pad with 0 is no forced landing", exact.forcedTotal() + " " + exact.cellOf(0), "0 3");
    due(40, "and charged", exact.battery(0) + " " + exact.isFlying(0), "5 false");
  }

  private static void charging() {
    DroneLightShow show = withFlying(0, 1);
    show.addPad(0);
    show.advance(12);
    due(27, "a flying drone over a pad is not charged", show.battery(0), 88);
    show.land(0);
    show.advance(1);
    due(27, "charged by 5", show.battery(0) + " " + show.battery(1), "93 87");
    show.advance(1);
    due(27, "98", show.battery(0), 98);
    show.advance(1);
    due(27, "not above 100", show.battery(0), 100);
    DroneLightShow off = withFlying(5);
    ticks(off, 90);
    off.advance(1);
    due(27, "not charged off a pad", off.battery(0), 10);
    off.addPad(5);
    off.advance(1);
    due(27, "charged on a new pad", off.battery(0), 15);
  }

  private static void wantedCell() {
    DroneLightShow show = withFlying(27);
    show.addDrone(0);
    fails(29, "wantedCell of a grounded drone", MISSING, () -> show.wantedCell(1));
    fails(29, "wantedCell without a target", MISSING, () -> show.wantedCell(0));
    int[][] ways = {{0, 19}, {63, 35}, {24, 26}, {31, 28}, {3, 19}, {59, 35}, {7, 19}, {56, 35}};
    for (int[] way : ways) {
      show.sendTo(0, way[0]);
      due(29, "wantedCell towards " + way[0], show.wantedCell(0), way[1]);
    }
    show.addDrone(35);
    due(29, "wantedCell that is taken", show.wantedCell(0), 35);
    show.sendTo(0, 27);
    fails(29, "wantedCell in the target", MISSING, () -> show.wantedCell(0));
  }

  private static void conflicts() {
    DroneLightShow show = withFlying(1, 8, 10, 17, 40, 42);
    due(30, "none without targets", show.conflictCount(), 0);
    due(31, "none without targets", show.conflictCountByCell(), 0);
    show.sendTo(0, 9);
    show.sendTo(1, 9);
    due(30, "one pair", show.conflictCount(), 1);
    due(31, "one pair", show.conflictCountByCell(), 1);
    show.sendTo(2, 9);
    due(30, "three pairs", show.conflictCount(), 3);
    due(31, "three pairs", show.conflictCountByCell(), 3);
    show.sendTo(3, 9);
    show.sendTo(4, 41);
    show.sendTo(5, 41);
    due(30, "six pairs and one", show.conflictCount(), 7);
    due(31, "six pairs and one", show.conflictCountByCell(), 7);
    show.sendTo(0, 0);
    due(30, "the next cell counts, not the target", show.conflictCount(), 4);
    due(31, "the next cell counts, not the target", show.conflictCountByCell(), 4);
    DroneLightShow ends = withFlying(1, 8, 62, 55);
    type(ends, "send 0 0;send 1 0;send 2 63;send 3 63");
    ends.run();
    for (int k = 0; k < 3; k++) {
      due(30, "a pair at either end", ends.conflictCount(), 2);
      due(31, "a pair at either end", ends.conflictCountByCell(), 2);
    }
  }

  private static void ranks() {
    DroneLightShow show = withDrones(0, 10, 20, 30);
    due(32, "all alike", ranking(show), "0 1 2 3 ");
    show.takeOff(2);
    due(32, "flying first", ranking(show), "2 0 1 3 ");
    show.takeOff(3);
    show.advance(1);
    show.takeOff(1);
    due(32, "less battery first", ranking(show), "2 3 1 0 ");
    for (int bad : new int[] {-1, 4, 10, MIN, MAX}) {
      fails(32, "droneAtRank(" + bad + ")", MISSING, () -> show.droneAtRank(bad));
    }
    fails(32, "droneAtRank(0) of none", MISSING, () -> new DroneLightShow().droneAtRank(0));
  }

  private static String ranking(DroneLightShow show) {
    StringBuilder text = new StringBuilder();
    for (int rank = 0; rank < show.droneCount(); rank++) {
      text.append(show.droneAtRank(rank)).append(' ');
    }
    return text.toString();
  }

  private static void batteryAfter() {
    DroneLightShow show = withFlying(0, 2);
    show.sendTo(0, 5);
    String before = view(show);
    due(33, "batteryAfter(0, 0)", show.batteryAfter(0, 0), 100);
    due(33, "batteryAfter(1, 30)", show.batteryAfter(1, 30), 70);
    due(33, "blocked behind another drone", show.batteryAfter(0, 30), 69);
    due(33, "batteryAfter changes nothing", view(show), before);
    due(33, "nor is it a change", show.undo() + " " + targetOf(show, 0), "4 -1");
    for (int bad : new int[] {-1, 31, MIN, MAX}) {
      fails(33, "batteryAfter(0, " + bad + ")", ARGUMENT, () -> show.batteryAfter(0, bad));
    }
    for (int bad : new int[] {-1, 2, MIN, MAX}) {
      fails(33, "batteryAfter(" + bad + ", 1)", INDEX, () -> show.batteryAfter(bad, 1));
      fails(33, "batteryAfter(" + bad + ", 31)", INDEX, () -> show.batteryAfter(bad, 31));
    }
  }

  private static void cues() {
    DroneLightShow show = withDrones(0, 1);
    fails(36, "nextCueTime of none", MISSING, show::nextCueTime);
    due(35, "cueCount of none", show.cueCount(), 0);
    due(34, "cueColour(0, 3, 5)", show.cueColour(0, 3, 5), 1);
    due(34, "cueColour(0, 3, 6)", show.cueColour(0, 3, 6), 2);
    due(34, "cueColour(1, 2, 7)", show.cueColour(1, 2, 7), 3);
    due(34, "cueColour(0, 999, 0)", show.cueColour(0, 999, 0), 4);
    due(36, "nextCueTime", show.nextCueTime(), 2);
    for (int bad : new int[] {-1, 2, MIN, MAX}) {
      fails(34, "cue of drone " + bad, INDEX, () -> show.cueColour(bad, 9, 1));
      fails(34, "bad cue of drone " + bad, INDEX, () -> show.cueColour(bad, 0, 9));
    }
    for (int bad : new int[] {0, -1, 1000, MIN, MAX}) {
      fails(34, "cue at " + bad, ARGUMENT, () -> show.cueColour(0, bad, 1));
    }
    for (int bad : new int[] {-1, 8, MIN, MAX}) {
      fails(34, "cue to colour " + bad, ARGUMENT, () -> show.cueColour(0, 5, bad));
    }
    show.advance(2);
    due(35, "cueCount at 2", show.cueCount() + " " + show.nextCueTime(), "3 3");
    due(34, "colours at 2", show.colour(0) + " " + show.colour(1), "0 7");
    fails(34, "cue at the current time", ARGUMENT, () -> show.cueColour(0, 2, 1));
    show.advance(1);
    due(34, "the later added cue wins", show.colour(0), 6);
    due(35, "cueCount at 3", show.cueCount() + " " + show.nextCueTime(), "1 999");
    due(34, "cue at the next time", show.cueColour(1, 4, 1), 2);
    for (int k = 3; k <= 12; k++) {
      due(34, "cue " + k, show.cueColour(0, 10, k % 8), k);
    }
    fails(34, "a thirteenth cue", STATE, () -> show.cueColour(0, 10, 1));
    fails(34, "a bad thirteenth cue", ARGUMENT, () -> show.cueColour(0, 3, 1));
    fails(34, "a thirteenth cue of no drone", INDEX, () -> show.cueColour(2, 10, 1));
    show.advance(30);
    due(34, "the last of ten cues", show.colour(0), 12 % 8);
    due(35, "room again", show.cueCount(), 1);
    ticks(show, 965);
    due(35, "the cue at 999 is pending at 998", show.now() + " " + show.cueCount(), "998 1");
    due(34, "a cue at 999", show.cueColour(1, 999, 3), 2);
    show.advance(1);
    due(34, "colours at 999", show.colour(0) + " " + show.colour(1) + " " + show.cueCount(), "0 3 0");
    fails(34, "a cue at 1000 in the time 999", ARGUMENT, () -> show.cueColour(0, 1000, 1));
  }

  private static void totals() {
    DroneLightShow show = withFlying(0, 2);
    show.sendTo(0, 3);
    show.advance(3);
    due(37, "movedTotal", show.movedTotal(), 1);
    due(38, "blockedTotal", show.blockedTotal(), 2);
    show.sendTo(1, 10);
    show.advance(3);
    due(37, "movedTotal", show.movedTotal(), 4);
    due(38, "blocked once more, before the other one left", show.blockedTotal(), 3);
    due(39, "emergencyTotal", show.emergencyTotal(), 0);
    due(40, "forcedTotal", show.forcedTotal(), 0);
  }

  private static void append() {
    DroneLightShow show = new DroneLightShow();
    due(41, "append(' ')", show.append(' '), 1);
    due(41, "append('~')", show.append('~'), 2);
    for (char bad : new char[] {31, 127, 0, 255, 65535}) {
      fails(41, "append(" + (int) bad + ")", ARGUMENT, () -> show.append(bad));
    }
    for (int length = 3; length <= 60; length++) {
      due(41, "append", show.append('x'), length);
    }
    fails(41, "a character too many", STATE, () -> show.append('x'));
    fails(41, "a bad character too many", ARGUMENT, () -> show.append((char) 31));
    fails(41, "undo after append", STATE, show::undo);
  }

  private static void run() {
    DroneLightShow show = new DroneLightShow();
    type(show, "add 9;off 0;send 0 63;tick 5");
    due(42, "run", show.run(), 4);
    due(42, "view", view(show), "t5 d49/90/0F63 f0 f0 f0 f0 c0 m5 b0 e0 l0");
    due(42, "the text is empty afterwards", show.append('a'), 1);
    fails(42, "run of a piece", ARGUMENT, show::run);
    due(42, "empty after a bad text", show.append('a'), 1);
    due(42, "one change", show.undo(), 0);
    due(42, "undone as one", view(show), "t0 f0 f0 f0 f0 c0 m0 b0 e0 l0");
    DroneLightShow ten = new DroneLightShow();
    type(ten, "add 0;add 1;add 2;add 3;add 4;add 5;add 6;add 7;add 8;add 9");
    due(42, "ten commands", ten.run(), 10);
    due(42, "ten drones", ten.occupiedMask(), 1023L);
    DroneLightShow full = new DroneLightShow();
    type(full, "add 00;add 1;add 2;add 3;add 4;add 5;add 6;add 7;add 8;add 9");
    fails(42, "sixty characters are full", STATE, () -> full.append(';'));
    due(42, "sixty characters", full.run(), 10);
    DroneLightShow digits = new DroneLightShow();
    type(digits, "add 007;add 63;add 08");
    due(42, "leading zeros", digits.run(), 3);
    due(42, "cells", digits.cellOf(0) + " " + digits.cellOf(1) + " " + digits.cellOf(2), "7 63 8");
    type(digits, "colour 2 999 7");
    digits.run();
    due(42, "three digits", digits.nextCueTime(), 999);
  }

  private static void runCallsEveryCommand() {
    DroneLightShow show = new DroneLightShow();
    type(show, "add 0;add 1;pad 0;off 0;off 1;land 0;send 1 2;reserve 12");
    due(42, "eight commands", show.run(), 8);
    due(42, "drones", show.isFlying(0) + " " + show.isFlying(1) + " " + show.target(1), "false true 2");
    due(42, "pad", show.isPad(0), true);
    due(42, "reserve", show.setReserve(12), 12);
    type(show, "form 0 5;form 0 6;form 3 7;clear 3;assign 0;colour 1 2 4");
    due(42, "six commands", show.run(), 6);
    due(42, "formations", show.formationMask(0) + " " + show.formationMask(3), "96 0");
    due(42, "assigned", show.target(1), 5);
    due(42, "cue", show.nextCueTime(), 2);
    type(show, "tick 2");
    due(42, "one command", show.run(), 1);
    due(42, "colour", show.colour(1) + " " + show.cellOf(1) + " " + show.now(), "4 3 2");
  }

  private static void errorPositions() {
    errorAt("", 0);
    errorAt("x", 0);
    errorAt(" add 1", 0);
    errorAt(";", 0);
    errorAt("a", 1);
    errorAt("ad", 2);
    errorAt("add", 3);
    errorAt("add ", 4);
    errorAt("add  1", 4);
    errorAt("addd 1", 3);
    errorAt("adx", 2);
    errorAt("as", 2);
    errorAt("asd", 2);
    errorAt("Add 1", 0);
    errorAt("add x", 4);
    errorAt("add -1", 4);
    errorAt("add 1234", 7);
    errorAt("add 12 ", 6);
    errorAt("add 1 2", 5);
    errorAt("add 1;", 6);
    errorAt("add 1;;", 6);
    errorAt("add 1; add 2", 6);
    errorAt("add 1;add 2;p", 13);
    errorAt("add 1;add 2;q", 12);
    errorAt("off 10", 5);
    errorAt("off 1 ", 5);
    errorAt("land 12", 6);
    errorAt("lend 1", 1);
    errorAt("send 1", 6);
    errorAt("send 12", 6);
    errorAt("send 1 ", 7);
    errorAt("send 1;", 6);
    errorAt("send 1 1234", 10);
    errorAt("send 1 12 3", 9);
    errorAt("reserve", 7);
    errorAt("reserv 5", 6);
    errorAt("reserve 1000", 11);
    errorAt("form 0", 6);
    errorAt("form 0 0 ", 8);
    errorAt("form 00", 6);
    errorAt("clear 12", 7);
    errorAt("co", 2);
    errorAt("cx", 1);
    errorAt("assign 12", 8);
    errorAt("tick 0000", 8);
    errorAt("pad 0000", 7);
    errorAt("colour 1 22", 11);
    errorAt("colour 11 22 3", 8);
    errorAt("colour 1 2222 3", 12);
    errorAt("colour 1 222 33", 14);
    errorAt("colour 1 222 ", 13);
    errorAt("colour 1 222 x", 13);
    errorAt("color 1 2 3", 4);
    DroneLightShow show = withDrones(0);
    type(show, "add 1;ad");
    fails(42, "run of an unfinished text", ARGUMENT, show::run);
    due(43, "errorPosition", show.errorPosition(), 8);
    fails(43, "no failed command", MISSING, show::failedCommand);
    type(show, "add 0");
    fails(42, "run of a failing text", STATE, show::run);
    due(43, "errorPosition is left", show.errorPosition(), 8);
    type(show, "add 1");
    due(42, "run", show.run(), 1);
    due(43, "errorPosition is left", show.errorPosition(), 8);
    fails(42, "run of an empty text", ARGUMENT, show::run);
    due(43, "errorPosition is set anew", show.errorPosition(), 0);
  }

  private static void errorAt(String text, int want) {
    DroneLightShow show = new DroneLightShow();
    type(show, text);
    fails(42, "run of \"" + text + "\"", ARGUMENT, show::run);
    due(43, "errorPosition of \"" + text + "\"", show.errorPosition(), want);
    fails(44, "failedCommand of \"" + text + "\"", MISSING, show::failedCommand);
    due(42, "the text is empty", show.append('a'), 1);
  }

  private static void failedCommand() {
    failsAt("add 64", 0);
    failsAt("add 0;add 0", 1);
    failsAt("pad 1;pad 2;pad 1", 2);
    failsAt("add 0;off 1", 1);
    failsAt("add 0;off 0;land 0", 2);
    failsAt("add 0;send 0 1", 1);
    failsAt("add 0;off 0;send 0 64", 2);
    failsAt("reserve 10;reserve 4", 1);
    failsAt("reserve 31;add 0", 0);
    failsAt("form 4 0", 0);
    failsAt("form 0 64", 0);
    failsAt("clear 3;clear 4", 1);
    failsAt("assign 0", 0);
    failsAt("tick 30;tick 1;tick 31", 2);
    failsAt("tick 0", 0);
    failsAt("add 0;tick 5;colour 0 5 1", 2);
    failsAt("add 0;colour 0 1 8", 1);
    DroneLightShow show = withFlying(0);
    show.sendTo(0, 9);
    type(show, "tick 9;add 4;off 1;tick 31;add 4");
    fails(42, "run", STATE, show::run);
    due(44, "failedCommand", show.failedCommand(), 3);
    due(44, "the failed run is no change", show.undo(), 2);
    type(show, "add 5");
    show.run();
    due(44, "failedCommand is left", show.failedCommand(), 3);
    type(show, "add 5;x");
    fails(44, "run of a bad text", ARGUMENT, show::run);
    due(44, "failedCommand is left", show.failedCommand(), 3);
    type(show, "add 5");
    fails(44, "run of a failing text", STATE, show::run);
    due(44, "failedCommand is set anew", show.failedCommand(), 0);
  }

  private static void failsAt(String text, int want) {
    DroneLightShow show = new DroneLightShow();
    type(show, text);
    fails(42, "run of \"" + text + "\"", STATE, show::run);
    due(44, "failedCommand of \"" + text + "\"", show.failedCommand(), want);
    fails(43, "errorPosition of \"" + text + "\"", MISSING, show::errorPosition);
    fails(42, "undo after it", STATE, show::undo);
    due(42, "the text is empty", show.append('a'), 1);
  }

  private static void describeRow() {
    DroneLightShow show = withDrones(5, 0, 1, 2);
    show.addPad(4);
    show.addPad(5);
    show.takeOff(3);
    show.sendTo(3, 2);
    due(45, "describeRow(0)", show.describeRow(0), 8);
    due(45, "row 0", row(show, 0), "bc3._a..");
    due(45, "row 7", row(show, 7), "........");
    show.addDrone(63);
    show.addDrone(56);
    for (int cell = 57; cell < 61; cell++) {
      show.addDrone(cell);
    }
    show.takeOff(9);
    due(45, "row 7", row(show, 7), "fghi9..e");
    for (int bad : new int[] {-1, 8, MIN, MAX}) {
      fails(45, "describeRow(" + bad + ")", INDEX, () -> show.describeRow(bad));
    }
    due(45, "a refused row leaves the line", show.lineAt(4), '9');
    due(46, "lineAt(0)", show.lineAt(0), 'f');
    due(46, "lineAt(7)", show.lineAt(7), 'e');
    for (int bad : new int[] {-1, 8, MIN, MAX}) {
      fails(46, "lineAt(" + bad + ")", INDEX, () -> show.lineAt(bad));
    }
    show.advance(1);
    show.undo();
    show.undo();
    due(46, "the line is not undone", show.lineAt(4), '9');
    due(45, "the row is", row(show, 7), "fghij..e");
  }

  private static void meanBatteryBits() {
    DroneLightShow show = new DroneLightShow();
    fails(47, "meanBatteryBits of no drones", ARITHMETIC, show::meanBatteryBits);
    show.addDrone(0);
    due(47, "one full drone", show.meanBatteryBits(), Float.floatToIntBits(100f));
    show.addDrone(10);
    show.addDrone(20);
    show.takeOff(0);
    for (int loss = 1; loss <= 90; loss++) {
      show.advance(1);
      due(47, "loss " + loss, show.meanBatteryBits(), Float.floatToIntBits((300 - loss) / 3f));
    }
    DroneLightShow low = withFlying(0);
    low.addPad(63);
    low.setReserve(5);
    for (int tick = 1; tick <= 100; tick++) {
      low.advance(1);
      due(47, "one drone", low.meanBatteryBits(), Float.floatToIntBits((float) low.battery(0)));
    }
    due(47, "an empty battery", low.battery(0) + " " + low.meanBatteryBits(), "0 0");
    meanOfTheLast();
  }

  /** Ten drones whose batteries end one after the other: all means from 10 down to 0. */
  private static void meanOfTheLast() {
    DroneLightShow show = withFlying(0, 1, 2, 3, 4, 5, 6, 7, 8, 9);
    show.addPad(63);
    show.addPad(62);
    show.addPad(61);
    show.addPad(60);
    ticks(show, 80);
    for (int tick = 81; tick <= 100; tick++) {
      show.advance(1);
      int sum = 0;
      for (int d = 0; d < 10; d++) {
        sum += show.battery(d);
      }
      due(47, "ten drones", show.meanBatteryBits(), Float.floatToIntBits((float) sum / 10f));
    }
  }

  /** With ten drones and ten cells every row of the program is full. */
  private static void fullHouse() {
    DroneLightShow show = withFlying(0, 1, 2, 3, 4, 5, 6, 7, 8, 9);
    for (int cell = 54; cell < 64; cell++) {
      show.addToFormation(0, cell);
    }
    due(21, "assign of ten", show.assign(0), 10);
    due(23, "occupiedMask of ten", show.occupiedMask(), 1023L);
    due(30, "conflictCount of ten", show.conflictCount(), 0);
    due(31, "conflictCountByCell of ten", show.conflictCountByCell(), 0);
    due(32, "ranks of ten", ranking(show), "0 1 2 3 4 5 6 7 8 9 ");
    due(47, "meanBatteryBits of ten", show.meanBatteryBits(), Float.floatToIntBits(100f));
    due(48, "meanDistance of ten", show.meanDistance() > 6.0, true);
    due(49, "isConsistent of ten", show.isConsistent(), true);
    due(15, "droneAt of ten", show.droneAt(9), 9);
    fails(15, "droneAt a free cell", MISSING, () -> show.droneAt(10));
    show.advance(30);
    due(24, "matchCount of ten", show.matchCount(0), show.matchCountByScan(0));
    due(26, "coverage of ten", show.coverage(0), (float) show.matchCount(0) / 10f);
  }

  private static void blockedTotalsAreUndoneAndRestored() {
    DroneLightShow show = withFlying(0, 1);
    show.sendTo(0, 2);
    show.advance(3);
    show.save();
    show.advance(4);
    due(38, "blockedTotal", show.blockedTotal(), 7);
    show.undo();
    due(50, "blockedTotal is undone", show.blockedTotal(), 3);
    show.advance(1);
    show.restore();
    due(52, "blockedTotal is restored", show.blockedTotal(), 3);
  }

  /** What an earlier, longer text left in the buffer must not continue a later one. */
  private static void staleText() {
    staleAfter("add 12", "ad", 2);
    staleAfter("add 12", "add ", 4);
    staleAfter("add 1;add 2", "add 1;", 6);
    staleAfter("add 1;off 0;send 0 23", "send 0", 6);
    staleAfter("add 1;off 0;send 0 23", "add 1;off 0;send 0", 18);
    staleAfter("add 1;off 0;send 0 23", "add 1;off 0;send 0 ", 19);
  }

  private static void staleAfter(String good, String bad, int want) {
    DroneLightShow show = new DroneLightShow();
    type(show, good);
    show.run();
    type(show, bad);
    fails(42, "run of \"" + bad + "\" after \"" + good + "\"", ARGUMENT, show::run);
    due(43, "errorPosition of \"" + bad + "\" after \"" + good + "\"", show.errorPosition(), want);
  }

  private static void meanDistance() {
    DroneLightShow show = withFlying(0, 63, 30);
    show.addDrone(1);
    fails(48, "meanDistance without targets", ARITHMETIC, show::meanDistance);
    show.sendTo(0, 18);
    due(48, "one", show.meanDistance(), 4.0);
    show.sendTo(1, 0);
    due(48, "two", show.meanDistance(), 9.0);
    show.sendTo(2, 30);
    due(48, "three, one in its target", show.meanDistance(), 6.0);
    show.sendTo(0, 1);
    show.sendTo(1, 63);
    due(48, "a third", show.meanDistance(), 1.0 / 3.0);
    DroneLightShow urgent = emergencyAbove();
    due(48, "an emergency's target counts", urgent.meanDistance(), 14.0);
    fails(48, "meanDistance of none", ARITHMETIC, () -> new DroneLightShow().meanDistance());
  }

  private static void isConsistent() {
    DroneLightShow show = new DroneLightShow();
    due(49, "a new object", show.isConsistent(), true);
    type(show, "add 0;add 8;add 16;off 0;off 1;pad 63;form 0 8;form 1 16");
    show.run();
    type(show, "send 0 8;send 1 0;pad 32;assign 0");
    show.run();
    for (int tick = 0; tick < 100; tick++) {
      due(49, "tick " + tick, show.isConsistent(), true);
      show.advance(1);
    }
    due(49, "no pads", withFlying(1, 2, 3).isConsistent(), true);
  }

  private static void undo() {
    DroneLightShow show = new DroneLightShow();
    fails(50, "undo of nothing", STATE, show::undo);
    long[] masks = new long[10];
    for (int d = 0; d < 10; d++) {
      masks[d] = show.occupiedMask();
      show.addDrone(d * 6);
    }
    for (int left = 7; left >= 0; left--) {
      due(50, "undo", show.undo(), left);
      due(50, "undone", show.occupiedMask(), masks[left + 2]);
    }
    fails(50, "a ninth undo", STATE, show::undo);
    show.addDrone(63);
    due(50, "undo of a new change", show.undo(), 0);
    undoOfRounds(withDrones(1, 2));
  }

  private static void undoOfRounds(DroneLightShow show) {
    show.undo();
    show.undo();
    for (int round = 0; round < 20; round++) {
      show.setReserve(5 + round);
      show.advance(1);
      int left = Math.min(8, round + 2);
      due(50, "undo round " + round, show.undo(), left - 1);
      due(50, "time round " + round, show.now(), 0);
    }
  }

  private static void undoOfEveryChange() {
    undone("addDrone", show -> show.addDrone(5));
    undone("addPad", show -> show.addPad(5));
    undone("land", show -> show.land(1));
    undone("sendTo", show -> show.sendTo(1, 33));
    undone("setReserve", show -> show.setReserve(20));
    undone("addToFormation", show -> show.addToFormation(1, 21));
    undone("clearFormation", show -> show.clearFormation(1));
    undone("clearFormation of no cells", show -> show.clearFormation(0));
    undone("assign", show -> show.assign(1));
    undone("cueColour", show -> show.cueColour(1, 1, 4));
    undone("takeOff", show -> show.takeOff(2));
    undone("advance", show -> show.advance(30));
    undone("run", show -> runText(show, "tick 30;tick 30;tick 30;add 7;pad 7;form 1 1;clear 1;tick 1"));
  }

  private static void runText(DroneLightShow show, String text) {
    type(show, text);
    show.run();
  }

  private static void undone(String what, Consumer<DroneLightShow> change) {
    DroneLightShow show = withFlying(0, 9);
    show.addDrone(30);
    show.addPad(9);
    show.addToFormation(1, 20);
    show.cueColour(0, 2, 3);
    show.sendTo(0, 63);
    for (int k = 0; k < 8; k++) {
      show.setReserve(10);
    }
    String before = view(show);
    change.accept(show);
    due(50, "undo of " + what, show.undo(), 7);
    due(50, "view after undo of " + what, view(show), before);
    due(50, "pads after undo of " + what, show.isPad(5) + " " + show.isPad(9), "false true");
    due(50, "reserve after undo of " + what, show.setReserve(12), 10);
  }

  private static void undoLeavesAlone() {
    DroneLightShow show = withDrones(0);
    show.describeRow(0);
    type(show, "x");
    fails(50, "run", ARGUMENT, show::run);
    type(show, "add 0");
    fails(50, "run", STATE, show::run);
    type(show, "ad");
    show.undo();
    due(50, "the line stays", show.lineAt(0), 'a');
    due(50, "the error position stays", show.errorPosition(), 0);
    due(50, "the failed command stays", show.failedCommand(), 0);
    due(50, "the text stays", show.append('d'), 3);
    type(show, " 3;add 4");
    due(50, "the text stays", show.run(), 2);
    show.save();
    type(show, "pad");
    show.describeRow(0);
    show.restore();
    due(52, "the line stays", show.lineAt(3), 'a');
    due(52, "the text stays", show.append(' '), 4);
    due(52, "the error position stays", show.errorPosition(), 0);
    due(52, "the failed command stays", show.failedCommand(), 0);
  }

  private static void saveAndRestore() {
    DroneLightShow show = new DroneLightShow();
    fails(52, "restore of nothing", STATE, show::restore);
    type(show, "add 0;add 9;off 0;off 1;pad 63;form 2 7;assign 2;send 1 63");
    show.run();
    type(show, "colour 0 50 3;tick 9;reserve 20");
    show.run();
    String saved = view(show);
    due(51, "save", show.save(), 2);
    due(51, "save changes nothing", view(show), saved);
    due(51, "save is no change", show.undo(), 1);
    fails(51, "run", ARGUMENT, show::run);
    ticks(show, 90);
    show.addDrone(33);
    show.addPad(30);
    show.clearFormation(2);
    due(52, "restore", show.restore(), 2);
    due(52, "restored", view(show), saved);
    fails(52, "no undo after restore", STATE, show::undo);
    due(52, "the reserve is restored", show.setReserve(7), 20);
    ticks(show, 90);
    show.addDrone(34);
    due(52, "restore again", show.restore(), 2);
    due(52, "restored again", view(show), saved);
    due(52, "the reserve is restored again", show.setReserve(7), 20);
    show.addDrone(35);
    due(51, "save replaces", show.save(), 3);
    due(51, "the changes before can be undone", show.undo(), 1);
    due(52, "restore of the new snapshot", show.restore(), 3);
    due(52, "its drone", show.cellOf(2), 35);
    due(52, "its reserve", show.setReserve(8), 7);
    due(52, "a change after restore can be undone", show.undo(), 0);
  }
}
