/** Promises 45 to 49: the line and the statistics. */
final class LineSentences {
  private LineSentences() {}

  static void all() {
    describeRow();
    signs();
    lineAt();
    meanBatteryBits();
    meanDistance();
    isConsistent();
  }

  private static Sheet.Setup described(Sheet.Setup setup, int row) {
    return Sheet.with(setup, show -> show.describeRow(row));
  }

  private static void describeRow() {
    Sheet.sentence(
        45,
        "Writes a row of the grid to the line, replacing its previous content.",
        () -> {
          DroneLightShow show = Sheet.padded(Sheet.drones(0, 63), 7, 56).make();
          String[] want = {"a......_", "........", "........", "........", "........", "........", "........", "_......b"};
          for (int row : new int[] {0, 1, 7, 6, 0, 7, 5, 4, 3, 2}) {
            Sheet.due("the row " + row, Sheet.line(show, row), want[row]);
          }
          show.describeRow(0);
          show.addDrone(1);
          Sheet.due("the line after a change", show.lineAt(1), '.');
          show.describeRow(0);
          Sheet.due("the line written again", show.lineAt(1), 'c');
          Sheet.due("no change", show.undo(), 4);
        });
    Sheet.sentence(
        45,
        "`row`: the row, 0 to 7",
        () -> {
          Sheet.range(0, 7, n -> 8, Sheet.INDEX, Sheet.drones(9), DroneLightShow::describeRow);
          DroneLightShow show = Sheet.drones(0, 8, 55, 63).make();
          Sheet.due("the row 0", Sheet.line(show, 0), "a.......");
          Sheet.due("the row 1", Sheet.line(show, 1), "b.......");
          Sheet.due("the row 6", Sheet.line(show, 6), ".......c");
          Sheet.due("the row 7", Sheet.line(show, 7), ".......d");
        });
    Sheet.sentence(
        45,
        "Returns the length of the line.",
        () -> {
          Sheet.answers("an empty row", 8, Sheet.drones(), s -> s.describeRow(0));
          Sheet.answers("a full row", 8, Sheet.drones(Sheet.row(8)), s -> s.describeRow(0));
          Sheet.answers("a second row", 8, described(Sheet.drones(), 0), s -> s.describeRow(1));
        });
    Sheet.sentence(
        45,
        "Throws `IndexOutOfBoundsException` if there is no such row",
        () -> {
          Sheet.refusals(Sheet.INDEX, Sheet.drones(9), DroneLightShow::describeRow, -1, 8, 9, 63, Sheet.MIN, Sheet.MAX);
          Sheet.refusedAsItIs("-1 before any line", Sheet.INDEX, Sheet.drones(9), s -> s.describeRow(-1));
          Sheet.refusedAsItIs("8 after a line", Sheet.INDEX, described(Sheet.drones(9), 1), s -> s.describeRow(8));
        });
  }

  private static void signs() {
    Sheet.sentence(
        45,
        "Each cell is one character: the digit of the drone if a flying drone is in it, the letter of the drone if a grounded drone is in it, \"_\" if it is a pad without a drone, and \".\" otherwise.",
        () -> {
          Sheet.answers("ten flying drones", "01234567", Sheet.flying(Sheet.row(10)), s -> Sheet.line(s, 0));
          Sheet.answers("the last two", "89......", Sheet.flying(Sheet.row(10)), s -> Sheet.line(s, 1));
          Sheet.answers("the last two, grounded", "ij......", Sheet.drones(Sheet.row(10)), s -> Sheet.line(s, 1));
          Sheet.answers("pads", "_.....__", Sheet.padded(Sheet.drones(), 0, 6, 7), s -> Sheet.line(s, 0));
          Sheet.answers("a flying drone over a pad", "0_......", Sheet.padded(Sheet.flying(0), 0, 1), s -> Sheet.line(s, 0));
          Sheet.answers("a grounded drone on a pad", "a_......", Sheet.padded(Sheet.drones(0), 0, 1), s -> Sheet.line(s, 0));
          Sheet.Setup left = Sheet.with(Sheet.padded(Sheet.flying(0), 0), s -> s.sendTo(0, 1));
          Sheet.answers("the pad is left", "_0......", Sheet.with(left, s -> s.advance(1)), s -> Sheet.line(s, 0));
          Sheet.answers("in an emergency", "0......_", Sheet.emergency(0, 7), s -> Sheet.line(s, 0));
          Sheet.answers("landed", "a.......", Sheet.emergency(0, 0), s -> Sheet.line(s, 0));
          Sheet.answers("forced down", "a.......", Sheet.spent(10), s -> Sheet.line(s, 0));
        });
    Sheet.sentence(
        45,
        "The letters of the drones 0 to 9 are a to j.",
        () -> {
          for (int drone = 0; drone < 10; drone++) {
            DroneLightShow show = Sheet.drones(Sheet.row(10)).make();
            show.describeRow(drone / 8);
            Sheet.due("the letter of " + drone, show.lineAt(drone % 8), "abcdefghij".charAt(drone));
            show.takeOff(drone);
            show.describeRow(drone / 8);
            Sheet.due("the digit of " + drone, show.lineAt(drone % 8), "0123456789".charAt(drone));
          }
        });
    Sheet.sentence(
        45,
        "An example is \"..3_.a..\".",
        () -> {
          Sheet.Setup four = Sheet.padded(Sheet.drones(5, 60, 61, 2), 3);
          Sheet.answers("the example", "..3_.a..", Sheet.with(four, s -> s.takeOff(3)), s -> Sheet.line(s, 0));
        });
  }

  private static void lineAt() {
    Sheet.sentence(
        46,
        "Returns a character of the line.",
        () -> {
          Sheet.Setup example = described(Sheet.padded(Sheet.drones(0, 7), 3), 0);
          String want = "a.._...b";
          for (int index = 0; index < 8; index++) {
            int place = index;
            Sheet.answers("lineAt(" + index + ")", want.charAt(index), example, s -> s.lineAt(place));
          }
        });
    Sheet.sentence(
        46,
        "The line is initially empty.",
        () -> {
          for (int index : new int[] {-1, 0, 1, 7, 8}) {
            Sheet.refusedAsItIs("lineAt(" + index + ")", Sheet.INDEX, Sheet.drones(9), s -> s.lineAt(index));
          }
          Sheet.answers("lineAt(0) of a line", '.', described(Sheet.drones(9), 0), s -> s.lineAt(0));
          Sheet.Setup refused = Sheet.with(Sheet.drones(9), s -> Sheet.outcome(s, t -> t.describeRow(8)));
          Sheet.refusedAsItIs("lineAt(0) after a refused row", Sheet.INDEX, refused, s -> s.lineAt(0));
        });
    Sheet.sentence(
        46,
        "`index`: the index of the character",
        () ->
            Sheet.range(
                0, 7, n -> "012345hg".charAt(n), Sheet.INDEX, eighthRow(), DroneLightShow::lineAt));
    Sheet.sentence(
        46,
        "Returns the character.",
        () -> {
          Sheet.answers("a digit", '0', described(Sheet.flying(0), 0), s -> s.lineAt(0));
          Sheet.answers("a letter", 'a', described(Sheet.drones(0), 0), s -> s.lineAt(0));
          Sheet.answers("a pad", '_', described(Sheet.padded(Sheet.drones(), 0), 0), s -> s.lineAt(0));
          Sheet.answers("a free cell", '.', described(Sheet.drones(), 0), s -> s.lineAt(0));
        });
    Sheet.sentence(
        46,
        "Throws `IndexOutOfBoundsException` if there is no such index",
        () -> {
          for (int index : new int[] {-1, 8, 9, 63, Sheet.MIN, Sheet.MAX}) {
            Sheet.refusedAsItIs("lineAt(" + index + ")", Sheet.INDEX, described(Sheet.drones(56), 7), s -> s.lineAt(index));
          }
          Sheet.answers("lineAt(0)", 'a', described(Sheet.drones(56), 7), s -> s.lineAt(0));
          Sheet.answers("lineAt(7)", '.', described(Sheet.drones(56), 7), s -> s.lineAt(7));
        });
  }

  /** The row 7 is "012345hg". */
  private static Sheet.Setup eighthRow() {
    return Sheet.with(
        Sheet.drones(56, 57, 58, 59, 60, 61, 63),
        show -> {
          for (int drone = 0; drone < 6; drone++) {
            show.takeOff(drone);
          }
          show.addDrone(62);
          show.describeRow(7);
        });
  }

  private static void meanBatteryBits() {
    Sheet.sentence(
        47,
        "Returns the bits, as given by Float.floatToIntBits, of the mean battery of all drones: the sum divided by the number of drones, both converted to float.",
        () -> {
          for (int drones = 1; drones <= 10; drones++) {
            DroneLightShow show = Sheet.drones(Sheet.row(drones)).make();
            show.takeOff(drones - 1);
            for (int tick = 0; tick <= 92; tick++) {
              int lost = Math.min(tick, 90);
              float mean = (float) (100 * drones - lost) / (float) drones;
              Sheet.due(drones + " drones, tick " + tick, show.meanBatteryBits(), Float.floatToIntBits(mean));
              show.advance(1);
            }
          }
        });
    Sheet.sentence(
        47,
        "Returns the bits.",
        () -> {
          Sheet.answers("of 100", 0x42c80000, Sheet.drones(0), DroneLightShow::meanBatteryBits);
          Sheet.Setup low = Sheet.padded(Sheet.flyingWith(0, 6), 63);
          int[] want = {0x40c00000, 0x40a00000, 0x40400000, 0x3f800000, 0, 0};
          for (int ticks = 0; ticks < want.length; ticks++) {
            int count = ticks;
            Sheet.Setup later = ticks == 0 ? low : Sheet.with(low, s -> s.advance(count));
            Sheet.answers("of the last " + ticks, want[ticks], later, DroneLightShow::meanBatteryBits);
          }
          smallestMeans();
        });
    Sheet.sentence(
        47,
        "Throws `ArithmeticException` if there are no drones",
        () -> {
          Sheet.refused("no drones", Sheet.ARITHMETIC, Sheet.drones(), DroneLightShow::meanBatteryBits);
          Sheet.answers("one drone", 0x42c80000, Sheet.drones(63), DroneLightShow::meanBatteryBits);
          Sheet.Setup undone = Sheet.with(Sheet.drones(63), DroneLightShow::undo);
          Sheet.refused("none after undo", Sheet.ARITHMETIC, undone, DroneLightShow::meanBatteryBits);
          Sheet.refused("pads alone", Sheet.ARITHMETIC, Sheet.padded(Sheet.drones(), 0), DroneLightShow::meanBatteryBits);
        });
  }

  /** Of two drones far from the pad, one runs out a tick before the other: a mean of a half. */
  private static void smallestMeans() {
    DroneLightShow show = Sheet.padded(Sheet.flying(0, 8), 63).make();
    show.setReserve(5);
    show.sendTo(1, 9);
    Sheet.ticks(show, 94);
    String means = "";
    for (int tick = 95; tick <= 100; tick++) {
      show.advance(1);
      int sum = show.battery(0) + show.battery(1);
      means += sum + " ";
      int want = Float.floatToIntBits((float) sum / 2f);
      Sheet.due("the mean of two with " + sum, show.meanBatteryBits(), want);
    }
    Sheet.due("the sums", means, "8 4 1 0 0 0 ");
  }

  private static void meanDistance() {
    Sheet.sentence(
        48,
        "Returns the mean distance of the flying drones with a target from their targets: the sum divided by their number, both converted to double.",
        () -> {
          DroneLightShow show = Sheet.flying(0, 1, 2).make();
          show.addDrone(63);
          show.sendTo(0, 1);
          Sheet.due("of one", show.meanDistance(), 1.0);
          show.sendTo(1, 2);
          Sheet.due("of two", show.meanDistance(), 1.0);
          show.sendTo(2, 2);
          Sheet.due("of three", show.meanDistance(), 2.0 / 3.0);
          show.sendTo(2, 63);
          Sheet.due("of three, one far away", show.meanDistance(), 14.0 / 3.0);
          show.addPad(2);
          show.land(2);
          Sheet.due("of two again", show.meanDistance(), 1.0);
          Sheet.answers("in an emergency", 14.0, Sheet.emergency(0, 63), DroneLightShow::meanDistance);
        });
    Sheet.sentence(
        48,
        "Returns the mean.",
        () -> {
          for (int drones = 1; drones <= 10; drones++) {
            DroneLightShow show = Sheet.flying(Sheet.row(10)).make();
            int sum = 0;
            for (int drone = 0; drone < drones; drone++) {
              sum += show.sendTo(drone, 62);
            }
            Sheet.due("of " + drones, show.meanDistance(), (double) sum / (double) drones);
          }
          Sheet.answers("0", 0.0, Sheet.with(Sheet.flying(9), s -> s.sendTo(0, 9)), DroneLightShow::meanDistance);
          Sheet.answers("1", 1.0, Sheet.with(Sheet.flying(9), s -> s.sendTo(0, 8)), DroneLightShow::meanDistance);
          Sheet.answers("14", 14.0, Sheet.with(Sheet.flying(0), s -> s.sendTo(0, 63)), DroneLightShow::meanDistance);
        });
    Sheet.sentence(
        48,
        "Throws `ArithmeticException` if no flying drone has a target",
        () -> {
          Sheet.refused("no drones", Sheet.ARITHMETIC, Sheet.drones(), DroneLightShow::meanDistance);
          Sheet.refused("a grounded drone", Sheet.ARITHMETIC, Sheet.drones(9), DroneLightShow::meanDistance);
          Sheet.refused("flying without a target", Sheet.ARITHMETIC, Sheet.flying(0, 9), DroneLightShow::meanDistance);
          Sheet.Setup one = Sheet.with(Sheet.flying(0, 9), s -> s.sendTo(1, 10));
          Sheet.answers("one with a target", 1.0, one, DroneLightShow::meanDistance);
          Sheet.Setup landed = Sheet.with(Sheet.padded(one, 9), s -> s.land(1));
          Sheet.refused("it has landed", Sheet.ARITHMETIC, landed, DroneLightShow::meanDistance);
          Sheet.refused("undone", Sheet.ARITHMETIC, Sheet.with(one, DroneLightShow::undo), DroneLightShow::meanDistance);
        });
  }

  private static void isConsistent() {
    Sheet.sentence(
        49,
        "Checks the invariants: no two drones are in one cell; conflictCount() equals conflictCountByCell(); matchCount() equals matchCountByScan() for all formations; and, if there are pads, nearestPad() equals nearestPadByRings() for all drones.",
        () -> {
          DroneLightShow show = Sheet.flying(0, 7, 56, 63, 1, 8, 27).make();
          show.addDrone(28);
          for (int formation = 0; formation < 4; formation++) {
            show.addToFormation(formation, 9 * formation);
            show.addToFormation(formation, 63 - formation);
          }
          show.assign(3);
          show.sendTo(4, 0);
          show.sendTo(5, 0);
          for (int pad : new int[] {63, 0, 28, 35}) {
            Sheet.due("before the pad " + pad, show.isConsistent(), true);
            show.addPad(pad);
          }
          for (int tick = 0; tick < 110; tick++) {
            show.advance(1);
            Sheet.due("tick " + tick, show.isConsistent(), true);
          }
          Sheet.due("in the end as in the beginning", show.emergencyTotal() > 0, true);
        });
    Sheet.sentence(
        49,
        "Returns whether all of them hold.",
        () -> {
          Sheet.answers("a new show", true, Sheet.drones(), DroneLightShow::isConsistent);
          Sheet.answers("pads, no drones", true, Sheet.padded(Sheet.drones(), 0, 63), DroneLightShow::isConsistent);
          Sheet.answers("drones, no pads", true, Sheet.flying(0, 63), DroneLightShow::isConsistent);
          Sheet.Setup full = Sheet.padded(Sheet.flying(Sheet.row(10)), 0, 7, 56, 63);
          Sheet.answers("a full show", true, full, DroneLightShow::isConsistent);
          Sheet.answers("on the ground", true, Sheet.padded(Sheet.drones(Sheet.row(10)), 0, 63), DroneLightShow::isConsistent);
        });
  }
}
