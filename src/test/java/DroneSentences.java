/** Promises 1 to 18, and of the terms: the grid, the drones and the pads. */
final class DroneSentences {
  private DroneSentences() {}

  static void all() {
    newObject();
    grid();
    drones();
    addDrone();
    addPad();
    takeOff();
    land();
    sendTo();
    setReserve();
    countsAndCells();
    batteriesAndStates();
    targetsAndColours();
    cells();
    pads();
    nearestPads();
    noSuchDrone();
  }

  /** So many drones in the cells 0, 1, 2 and so on, flying to the target 63. */
  private static Sheet.Setup onTheirWay(int count) {
    return Sheet.with(
        Sheet.flying(Sheet.row(count)),
        show -> {
          for (int drone = 0; drone < count; drone++) {
            show.sendTo(drone, 63);
          }
        });
  }

  private static DroneLightShow empty() {
    return new DroneLightShow();
  }

  private static void newObject() {
    Sheet.sentence(
        1,
        "An object is used for at most 512 calls after it has been made; what later calls answer is free.",
        () -> {
          DroneLightShow show = empty();
          for (int call = 1; call <= 509; call++) {
            Sheet.due("call " + call, show.setReserve(call % 2 == 0 ? 5 : 30), call == 1 ? 10 : call % 2 == 0 ? 30 : 5);
          }
          Sheet.due("call 510", show.undo(), 7);
          Sheet.due("call 511", show.advance(30), 0);
          Sheet.due("call 512", show.now(), 30);
        });
    Sheet.sentence(
        1,
        "Creates an empty grid at the time 0, without pads, and with formations without cells.",
        () -> {
          DroneLightShow show = empty();
          Sheet.due("droneCount", show.droneCount(), 0);
          Sheet.due("occupiedMask", show.occupiedMask(), 0L);
          Sheet.due("now", show.now(), 0);
          for (int cell = 0; cell < 64; cell++) {
            int place = cell;
            Sheet.next("droneAt(" + cell + ")", show, "throws." + Sheet.MISSING, s -> s.droneAt(place));
            Sheet.due("isPad(" + cell + ")", show.isPad(cell), false);
          }
          for (int formation = 0; formation < 4; formation++) {
            Sheet.due("formationMask(" + formation + ")", show.formationMask(formation), 0L);
          }
          Sheet.due("the first drone", show.addDrone(0), 0);
          Sheet.due("the first pad", show.addPad(0), 1);
          Sheet.due("the first cell of a formation", show.addToFormation(3, 0), 1);
          show.advance(1);
          Sheet.due("now after the first tick", show.now(), 1);
        });
  }

  private static void grid() {
    Sheet.sentence(
        45,
        "The grid has 8 rows and 8 columns.",
        () -> {
          for (int row = 0; row < 8; row++) {
            int number = row;
            Sheet.answers("describeRow(" + row + ")", 8, Sheet.drones(), s -> s.describeRow(number));
          }
          Sheet.refusals(Sheet.INDEX, Sheet.drones(), DroneLightShow::describeRow, -1, 8);
          Sheet.Setup described = Sheet.with(Sheet.drones(), s -> s.describeRow(0));
          Sheet.answers("lineAt(7)", '.', described, s -> s.lineAt(7));
          Sheet.refusals(Sheet.INDEX, described, DroneLightShow::lineAt, -1, 8);
          Sheet.answers("addDrone(63)", 0, Sheet.drones(), s -> s.addDrone(63));
          Sheet.refusals(Sheet.INDEX, Sheet.drones(), DroneLightShow::addDrone, -1, 64);
        });
    Sheet.sentence(
        45,
        "The cell with the number 8 * r + c is in the row r and the column c.",
        () -> {
          for (int cell = 0; cell < 64; cell++) {
            DroneLightShow show = Sheet.drones(cell).make();
            StringBuilder want = new StringBuilder("........");
            want.setCharAt(cell % 8, 'a');
            for (int row = 0; row < 8; row++) {
              Sheet.due(
                  "the row " + row + " with a drone in the cell " + cell,
                  Sheet.line(show, row),
                  row == cell / 8 ? want.toString() : "........");
            }
          }
        });
    Sheet.sentence(
        6,
        "The distance of two cells is the sum of the absolute differences of their rows and of their columns.",
        () -> {
          int[][] distances = {
            {0, 0, 0}, {0, 1, 1}, {0, 7, 7}, {0, 8, 1}, {0, 56, 7}, {0, 63, 14}, {63, 0, 14},
            {7, 8, 8}, {8, 7, 8}, {7, 56, 14}, {56, 7, 14}, {63, 63, 0}, {15, 16, 8}, {27, 36, 2}
          };
          for (int[] row : distances) {
            Sheet.answers(
                "sendTo(0, " + row[1] + ") in " + row[0],
                row[2],
                Sheet.flying(row[0]),
                s -> s.sendTo(0, row[1]));
          }
        });
    Sheet.sentence(
        2,
        "Two drones are never in one cell.",
        () -> {
          Sheet.refused(
              "addDrone onto a grounded drone", Sheet.UNSUPPORTED, Sheet.drones(9), s -> s.addDrone(9));
          Sheet.refused(
              "addDrone onto a flying drone", Sheet.UNSUPPORTED, Sheet.flying(9), s -> s.addDrone(9));
          DroneLightShow show = Sheet.flying(0, 7, 56, 63, 3, 24, 31, 59, 1, 8).make();
          for (int drone = 0; drone < 10; drone++) {
            show.sendTo(drone, 27);
          }
          for (int tick = 1; tick <= 40; tick++) {
            show.advance(1);
            Sheet.due("cells after the tick " + tick, Long.bitCount(show.occupiedMask()), 10);
          }
          Sheet.due("one of them is in the target", show.droneAt(27) >= 0, true);
        });
  }

  private static void drones() {
    Sheet.sentence(
        2,
        "There are at most 10 drones, numbered from 0.",
        () -> {
          DroneLightShow show = empty();
          for (int drone = 0; drone < 10; drone++) {
            Sheet.due("the drone " + drone, show.addDrone(63 - drone), drone);
            Sheet.due("its cell", show.cellOf(drone), 63 - drone);
          }
          Sheet.due("droneCount", show.droneCount(), 10);
          Sheet.Setup ten = Sheet.drones(Sheet.row(10));
          Sheet.refused("an eleventh drone", Sheet.STATE, ten, s -> s.addDrone(63));
          Sheet.refusals(Sheet.INDEX, ten, DroneLightShow::takeOff, -1, 10);
        });
    Sheet.sentence(
        11,
        "A drone is flying or grounded.",
        () -> {
          DroneLightShow show = Sheet.with(Sheet.drones(5), s -> s.addPad(5)).make();
          Sheet.due("isFlying of a new drone", show.isFlying(0), false);
          Sheet.next("land of it", show, "throws." + Sheet.STATE, s -> s.land(0));
          show.takeOff(0);
          Sheet.due("isFlying after takeOff", show.isFlying(0), true);
          Sheet.next("takeOff of it", show, "throws." + Sheet.STATE, s -> s.takeOff(0));
          show.land(0);
          Sheet.due("isFlying after land", show.isFlying(0), false);
        });
    Sheet.sentence(
        10,
        "It has a battery from 0 to 100 percent and a colour from 0 to 7.",
        () -> {
          DroneLightShow full = Sheet.with(Sheet.drones(5), s -> s.addPad(5)).make();
          full.advance(30);
          Sheet.due("a full battery on a pad", full.battery(0), 100);
          DroneLightShow low = Sheet.with(Sheet.flyingWith(0, 6), s -> s.addPad(63)).make();
          String batteries = "";
          for (int tick = 0; tick < 5; tick++) {
            low.advance(1);
            batteries += low.battery(0) + (low.isFlying(0) ? "F " : "G ");
          }
          Sheet.due("the last batteries", batteries, "5F 3F 1F 0G 0G ");
          for (int colour : new int[] {0, 1, 6, 7}) {
            Sheet.Setup cued = Sheet.with(Sheet.drones(5), s -> s.cueColour(0, 1, colour));
            Sheet.answers(
                "colour", colour, Sheet.with(cued, s -> s.advance(1)), s -> s.colour(0));
          }
          for (int colour : new int[] {-1, 8}) {
            Sheet.refused(
                "cueColour(0, 1, " + colour + ")",
                Sheet.ARGUMENT,
                Sheet.drones(5),
                s -> s.cueColour(0, 1, colour));
          }
        });
    Sheet.sentence(
        13,
        "A flying drone can have a target, which is a cell, and can be in an emergency.",
        () -> {
          Sheet.answers("without either", "0:100F", Sheet.flying(0), Sheet::fleet);
          for (int cell : new int[] {0, 63}) {
            Sheet.Setup sent = Sheet.with(Sheet.flying(0), s -> s.sendTo(0, cell));
            Sheet.answers("with the target " + cell, "0:100F>" + cell, sent, Sheet::fleet);
          }
          for (int cell : new int[] {-1, 64}) {
            Sheet.refused("a target " + cell, Sheet.INDEX, Sheet.flying(0), s -> s.sendTo(0, cell));
          }
          Sheet.answers("in an emergency", "0:30FE>63", Sheet.emergency(0, 63), Sheet::fleet);
        });
    Sheet.sentence(
        13,
        "A grounded drone has no target and is not in an emergency.",
        () -> {
          Sheet.answers("a new drone", "5:100G", Sheet.drones(5), Sheet::fleet);
          Sheet.refused("sendTo of it", Sheet.STATE, Sheet.drones(5), s -> s.sendTo(0, 5));
          Sheet.Setup sent = Sheet.with(Sheet.flying(0), s -> s.sendTo(0, 63));
          Sheet.answers("sent", "0:100F>63", sent, Sheet::fleet);
          Sheet.answers("landed", "0:100G", Sheet.with(sent, s -> landOnNewPad(s)), Sheet::fleet);
          Sheet.Setup urgent = Sheet.emergency(0, 63);
          Sheet.answers("landed in an emergency", "0:30G", Sheet.with(urgent, s -> landOnNewPad(s)), Sheet::fleet);
          Sheet.answers("down on the pad", "0:35G", Sheet.emergency(0, 0), Sheet::fleet);
          Sheet.answers("forced down", "0:30G", Sheet.with(sent, s -> lastTicks(s)), Sheet::fleet);
          Sheet.Setup starved = Sheet.with(Sheet.flyingWith(0, 6), s -> s.addPad(63));
          Sheet.answers(
              "forced down in an emergency", "24:0G", Sheet.with(starved, s -> s.advance(30)), Sheet::fleet);
        });
    Sheet.sentence(
        7,
        "The reserve is a number of percent, initially 10.",
        () -> {
          Sheet.answers("the first setReserve", 10, Sheet.drones(), s -> s.setReserve(5));
          Sheet.answers("at 11", "0:11F", Sheet.with(Sheet.flying(0), s -> Sheet.ticks(s, 89)), Sheet::fleet);
          Sheet.answers("at 10", "0:10G", Sheet.with(Sheet.flying(0), s -> Sheet.ticks(s, 90)), Sheet::fleet);
          Sheet.answers("at 9", "0:10G", Sheet.with(Sheet.flying(0), s -> Sheet.ticks(s, 91)), Sheet::fleet);
        });
  }

  private static void landOnNewPad(DroneLightShow show) {
    show.addPad(0);
    show.land(0);
  }

  /** A drone that was sent to a cell far away comes back and flies until the reserve of 30. */
  private static void lastTicks(DroneLightShow show) {
    show.setReserve(30);
    show.sendTo(0, 0);
    Sheet.ticks(show, 75);
  }

  private static void addDrone() {
    Sheet.sentence(
        2,
        "Adds a grounded drone with a full battery and the colour 0.",
        () -> {
          Sheet.Setup old = Sheet.with(Sheet.flying(0), s -> colourAndTick(s, 9));
          Sheet.answers("the drone before", "0:91F", old, Sheet::fleet);
          Sheet.Setup added = Sheet.with(old, s -> s.addDrone(33));
          Sheet.answers("both drones", "0:91F 33:100G", added, Sheet::fleet);
          Sheet.answers("the new drone's colour", 0, added, s -> s.colour(1));
          Sheet.answers("the old drone's colour", 7, added, s -> s.colour(0));
          Sheet.Setup again = Sheet.with(Sheet.with(added, s -> s.takeOff(1)), s -> colourAndTick(s, 3));
          Sheet.answers("a drone with a past", "0:88F 33:97F", again, Sheet::fleet);
          Sheet.Setup anew = Sheet.with(again, s -> undoAll(s));
          Sheet.answers("nothing is left", "", anew, Sheet::fleet);
          Sheet.Setup second = Sheet.with(Sheet.with(anew, s -> s.addDrone(1)), s -> s.addDrone(2));
          Sheet.answers("new drones with old numbers", "1:100G 2:100G", second, Sheet::fleet);
          Sheet.answers("their colours", "00", second, s -> "" + s.colour(0) + s.colour(1));
        });
    Sheet.sentence(
        2,
        "`cell`: the cell, 0 to 63",
        () -> {
          Sheet.range(0, 63, n -> 0, Sheet.INDEX, Sheet.drones(), DroneLightShow::addDrone);
          for (int cell : new int[] {0, 1, 62, 63}) {
            Sheet.answers("cellOf", cell, Sheet.drones(cell), s -> s.cellOf(0));
          }
        });
    Sheet.sentence(
        2,
        "Returns the number of the drone.",
        () -> {
          for (int drone : new int[] {0, 1, 8, 9}) {
            Sheet.answers("addDrone", drone, Sheet.drones(Sheet.row(drone)), s -> s.addDrone(40));
          }
          Sheet.Setup undone = Sheet.with(Sheet.drones(1, 2), DroneLightShow::undo);
          Sheet.answers("addDrone after undo", 1, undone, s -> s.addDrone(40));
        });
    Sheet.sentence(
        2,
        "Throws `IndexOutOfBoundsException` if there is no such cell",
        () -> {
          Sheet.answers("addDrone(0)", 1, Sheet.drones(1), s -> s.addDrone(0));
          Sheet.answers("addDrone(63)", 1, Sheet.drones(1), s -> s.addDrone(63));
          Sheet.refusals(Sheet.INDEX, Sheet.drones(1), DroneLightShow::addDrone, -1, 64, -64, 128);
        });
    Sheet.sentence(
        2,
        "Throws `IllegalStateException` if there are 10 drones",
        () -> {
          Sheet.answers("a ninth", 8, Sheet.drones(Sheet.row(8)), s -> s.addDrone(50));
          Sheet.answers("a tenth", 9, Sheet.drones(Sheet.row(9)), s -> s.addDrone(50));
          Sheet.refused("an eleventh", Sheet.STATE, Sheet.drones(Sheet.row(10)), s -> s.addDrone(50));
          Sheet.Setup undone = Sheet.with(Sheet.drones(Sheet.row(10)), DroneLightShow::undo);
          Sheet.answers("a tenth after undo", 9, undone, s -> s.addDrone(50));
        });
    Sheet.sentence(
        2,
        "Throws `UnsupportedOperationException` if a drone is in the cell",
        () -> {
          for (int cell : new int[] {0, 63}) {
            Sheet.refused("a taken cell", Sheet.UNSUPPORTED, Sheet.drones(20, cell), s -> s.addDrone(cell));
          }
          for (int cell : new int[] {26, 28, 19, 35}) {
            Sheet.answers("a cell beside it", 1, Sheet.drones(27), s -> s.addDrone(cell));
          }
          Sheet.Setup moved = Sheet.with(Sheet.with(Sheet.flying(27), s -> s.sendTo(0, 28)), s -> s.advance(1));
          Sheet.answers("the cell that it left", 1, moved, s -> s.addDrone(27));
          Sheet.refused("the cell that it took", Sheet.UNSUPPORTED, moved, s -> s.addDrone(28));
        });
  }

  private static void colourAndTick(DroneLightShow show, int ticks) {
    show.cueColour(show.droneCount() - 1, show.now() + 1, 7);
    show.advance(ticks);
  }

  private static void undoAll(DroneLightShow show) {
    int changes = show.undo();
    for (int change = 0; change < changes && change < 8; change++) {
      show.undo();
    }
  }

  private static void addPad() {
    Sheet.sentence(
        3,
        "There are at most 4 pads, which are cells.",
        () -> {
          int[] pads = {0, 63, 31, 32};
          DroneLightShow show = empty();
          for (int pad = 0; pad < 4; pad++) {
            Sheet.due("the pad " + pad, show.addPad(pads[pad]), pad + 1);
          }
          Sheet.refused("a fifth pad", Sheet.STATE, padded(0, 63, 31, 32), s -> s.addPad(5));
          Sheet.refusals(Sheet.INDEX, padded(0), DroneLightShow::addPad, -1, 64);
        });
    Sheet.sentence(
        3,
        "Makes a cell a landing pad.",
        () -> {
          Sheet.Setup show = Sheet.with(Sheet.flying(9), s -> s.addPad(9));
          Sheet.answers("isPad(8)", false, show, s -> s.isPad(8));
          Sheet.answers("isPad(9)", true, show, s -> s.isPad(9));
          Sheet.answers("isPad(10)", false, show, s -> s.isPad(10));
          Sheet.answers("land on it", 0, show, s -> s.land(0));
          Sheet.refused("land before it", Sheet.UNSUPPORTED, Sheet.flying(9), s -> s.land(0));
        });
    Sheet.sentence(
        3,
        "`cell`: the cell, 0 to 63",
        () -> Sheet.range(0, 63, n -> 1, Sheet.INDEX, Sheet.drones(), DroneLightShow::addPad));
    Sheet.sentence(
        3,
        "Returns the number of pads after the call.",
        () -> {
          Sheet.answers("the first", 1, padded(), s -> s.addPad(7));
          Sheet.answers("the second", 2, padded(8), s -> s.addPad(7));
          Sheet.answers("the third", 3, padded(8, 6), s -> s.addPad(7));
          Sheet.answers("the fourth", 4, padded(8, 6, 5), s -> s.addPad(7));
        });
    Sheet.sentence(
        3,
        "Throws `IndexOutOfBoundsException` if there is no such cell",
        () -> {
          Sheet.answers("addPad(0)", 2, padded(1), s -> s.addPad(0));
          Sheet.answers("addPad(63)", 2, padded(1), s -> s.addPad(63));
          Sheet.refusals(Sheet.INDEX, padded(1), DroneLightShow::addPad, -1, 64, 65, -63);
        });
    Sheet.sentence(
        3,
        "Throws `IllegalArgumentException` if the cell is a pad",
        () -> {
          for (int cell : new int[] {0, 27, 63}) {
            Sheet.refused("a pad twice", Sheet.ARGUMENT, padded(1, cell), s -> s.addPad(cell));
          }
          Sheet.answers("beside a pad", 2, padded(27), s -> s.addPad(26));
          Sheet.answers("on the other side", 2, padded(27), s -> s.addPad(28));
          Sheet.answers("a pad again after undo", 1, Sheet.with(padded(27), DroneLightShow::undo), s -> s.addPad(27));
        });
    Sheet.sentence(
        3,
        "Throws `IllegalStateException` if there are 4 pads",
        () -> {
          Sheet.answers("with 2 pads", 3, padded(1, 2), s -> s.addPad(40));
          Sheet.answers("with 3 pads", 4, padded(1, 2, 3), s -> s.addPad(40));
          Sheet.refused("with 4 pads", Sheet.STATE, padded(1, 2, 3, 4), s -> s.addPad(40));
          Sheet.answers(
              "with 3 after undo", 4, Sheet.with(padded(1, 2, 3, 4), DroneLightShow::undo), s -> s.addPad(40));
        });
  }

  private static Sheet.Setup padded(int... pads) {
    return Sheet.padded(Sheet.drones(), pads);
  }

  private static void takeOff() {
    Sheet.sentence(
        4,
        "Lets a drone take off.",
        () -> {
          Sheet.answers("before", "9:100G", Sheet.drones(9), Sheet::fleet);
          Sheet.answers("after", "9:100F", Sheet.flying(9), Sheet::fleet);
          Sheet.answers("a tick later", 99, Sheet.with(Sheet.flying(9), s -> s.advance(1)), s -> s.battery(0));
        });
    Sheet.sentence(
        4,
        "`drone`: the drone",
        () -> {
          String[] want = {"1:100F 2:100G 3:100G", "1:100G 2:100F 3:100G", "1:100G 2:100G 3:100F"};
          for (int drone = 0; drone < 3; drone++) {
            int number = drone;
            Sheet.answers(
                "takeOff(" + drone + ")",
                want[drone],
                Sheet.with(Sheet.drones(1, 2, 3), s -> s.takeOff(number)),
                Sheet::fleet);
          }
        });
    Sheet.sentence(
        4,
        "Returns the number of flying drones after the call.",
        () -> {
          DroneLightShow show = Sheet.drones(Sheet.row(10)).make();
          for (int drone = 9; drone >= 0; drone--) {
            Sheet.due("takeOff(" + drone + ")", show.takeOff(drone), 10 - drone);
          }
        });
    Sheet.sentence(
        4,
        "Throws `IllegalStateException` if the drone is flying",
        () -> {
          Sheet.answers("grounded", 1, Sheet.drones(4, 5), s -> s.takeOff(1));
          Sheet.refused("flying", Sheet.STATE, Sheet.flying(4, 5), s -> s.takeOff(1));
          Sheet.refused("flying in an emergency", Sheet.STATE, Sheet.emergency(0, 63), s -> s.takeOff(0));
          Sheet.answers("landed", 1, Sheet.with(Sheet.flying(0), s -> landOnNewPad(s)), s -> s.takeOff(0));
        });
    Sheet.sentence(
        4,
        "Throws `UnsupportedOperationException` if its battery is not greater than the reserve",
        () -> {
          for (int reserve : new int[] {6, 10, 29}) {
            Sheet.Setup below = Sheet.with(Sheet.spent(reserve), s -> s.setReserve(reserve + 1));
            Sheet.Setup above = Sheet.with(Sheet.spent(reserve), s -> s.setReserve(reserve - 1));
            Sheet.refused("1 less than the reserve", Sheet.UNSUPPORTED, below, s -> s.takeOff(0));
            Sheet.refused("the reserve", Sheet.UNSUPPORTED, Sheet.spent(reserve), s -> s.takeOff(0));
            Sheet.answers("1 more than the reserve", 1, above, s -> s.takeOff(0));
          }
          Sheet.refused("the least reserve", Sheet.UNSUPPORTED, Sheet.spent(5), s -> s.takeOff(0));
          Sheet.refused("the greatest reserve", Sheet.UNSUPPORTED, Sheet.spent(30), s -> s.takeOff(0));
          Sheet.Setup starved = Sheet.with(Sheet.flyingWith(0, 6), s -> s.addPad(63));
          Sheet.Setup dead = Sheet.with(starved, s -> s.advance(30));
          Sheet.answers("an empty battery", "24:0G", dead, Sheet::fleet);
          Sheet.refused("takeOff with it", Sheet.UNSUPPORTED, dead, s -> s.takeOff(0));
          Sheet.Setup full = Sheet.with(Sheet.drones(0), s -> s.setReserve(30));
          Sheet.answers("a full battery", 1, full, s -> s.takeOff(0));
        });
  }

  /** So many flying drones, the first and the last one over a pad. */
  private static Sheet.Setup overPads(int count) {
    Sheet.Setup one = Sheet.padded(Sheet.flying(Sheet.row(count)), 0);
    return count == 1 ? one : Sheet.padded(one, count - 1);
  }

  private static void land() {
    Sheet.sentence(
        5,
        "Lets a drone land on the pad in its cell.",
        () -> {
          Sheet.answers("before", "0:100F", overPads(1), Sheet::fleet);
          Sheet.answers("after", "0:100G", Sheet.with(overPads(1), s -> s.land(0)), Sheet::fleet);
          Sheet.Setup used = Sheet.with(Sheet.flyingWith(0, 60), s -> landOnNewPad(s));
          Sheet.answers("the battery stays", "0:60G", used, Sheet::fleet);
        });
    Sheet.sentence(
        5,
        "It has no target afterwards, and its emergency ends.",
        () -> {
          Sheet.Setup sent = Sheet.with(overPads(1), s -> s.sendTo(0, 1));
          Sheet.answers("with a target", "0:100F>1", sent, Sheet::fleet);
          Sheet.answers("without it", "0:100G", Sheet.with(sent, s -> s.land(0)), Sheet::fleet);
          Sheet.Setup own = Sheet.with(overPads(1), s -> s.sendTo(0, 0));
          Sheet.answers("its own cell was its target", "0:100G", Sheet.with(own, s -> s.land(0)), Sheet::fleet);
          Sheet.Setup urgent = Sheet.with(Sheet.emergency(0, 63), s -> s.addPad(0));
          Sheet.answers("in an emergency", "0:30FE>63", urgent, Sheet::fleet);
          Sheet.Setup landed = Sheet.with(urgent, s -> s.land(0));
          Sheet.answers("in none", "0:30G", landed, Sheet::fleet);
          Sheet.answers("a forced landing it was not", 0, landed, DroneLightShow::forcedTotal);
          Sheet.Setup again = Sheet.with(Sheet.with(landed, s -> s.setReserve(5)), s -> s.takeOff(0));
          Sheet.answers("in the air again", "0:30F", again, Sheet::fleet);
        });
    Sheet.sentence(
        5,
        "`drone`: the drone",
        () -> {
          String[] want = {"0:100G 1:100F 2:100F", null, "0:100F 1:100F 2:100G"};
          for (int drone : new int[] {0, 2}) {
            Sheet.answers(
                "land(" + drone + ")", want[drone], Sheet.with(overPads(3), s -> s.land(drone)), Sheet::fleet);
          }
        });
    Sheet.sentence(
        5,
        "Returns the number of flying drones after the call.",
        () -> {
          Sheet.answers("of one", 0, overPads(1), s -> s.land(0));
          Sheet.answers("of two", 1, overPads(2), s -> s.land(0));
          Sheet.answers("of ten", 9, overPads(10), s -> s.land(9));
          Sheet.Setup two = Sheet.with(overPads(2), s -> s.land(0));
          Sheet.answers("the last one", 0, two, s -> s.land(1));
          Sheet.answers("beside grounded ones", 0, Sheet.with(overPads(1), s -> s.addDrone(5)), s -> s.land(0));
        });
    Sheet.sentence(
        5,
        "Throws `IllegalStateException` if the drone is not flying",
        () -> {
          Sheet.answers("flying", 0, overPads(1), s -> s.land(0));
          Sheet.refused(
              "landed already", Sheet.STATE, Sheet.with(overPads(1), s -> s.land(0)), s -> s.land(0));
          Sheet.refused(
              "never in the air", Sheet.STATE, Sheet.with(Sheet.drones(0), s -> s.addPad(0)), s -> s.land(0));
          Sheet.refused("down after an emergency", Sheet.STATE, Sheet.emergency(0, 0), s -> s.land(0));
          Sheet.refused("forced down", Sheet.STATE, Sheet.spent(10), s -> s.land(0));
        });
    Sheet.sentence(
        5,
        "Throws `UnsupportedOperationException` if its cell is not a pad",
        () -> {
          Sheet.answers("on the pad", 0, Sheet.with(Sheet.flying(27), s -> s.addPad(27)), s -> s.land(0));
          for (int pad : new int[] {26, 28, 19, 35, 0, 63}) {
            Sheet.refused(
                "with a pad in " + pad,
                Sheet.UNSUPPORTED,
                Sheet.with(Sheet.flying(27), s -> s.addPad(pad)),
                s -> s.land(0));
          }
          Sheet.refused("without a pad", Sheet.UNSUPPORTED, Sheet.flying(27), s -> s.land(0));
          Sheet.refused("in an emergency beside its pad", Sheet.UNSUPPORTED, Sheet.emergency(0, 1), s -> s.land(0));
        });
  }

  private static void sendTo() {
    Sheet.sentence(
        6,
        "Sends a drone to a cell, which becomes its target.",
        () -> {
          DroneLightShow show = Sheet.flying(9, 20).make();
          for (int cell : new int[] {63, 0, 9, 20, 10}) {
            show.sendTo(0, cell);
            Sheet.due("sent to " + cell, Sheet.fleet(show), "9:100F>" + cell + " 20:100F");
          }
          show.advance(1);
          Sheet.due("a tick later", Sheet.fleet(show), "10:98F>10 20:99F");
        });
    Sheet.sentence(
        6,
        "`drone`: the drone",
        () -> {
          String[] want = {"1:100F>40 2:100F 3:100F", "1:100F 2:100F>40 3:100F", "1:100F 2:100F 3:100F>40"};
          for (int drone = 0; drone < 3; drone++) {
            int number = drone;
            Sheet.answers(
                "sendTo(" + drone + ", 40)",
                want[drone],
                Sheet.with(Sheet.flying(1, 2, 3), s -> s.sendTo(number, 40)),
                Sheet::fleet);
          }
        });
    Sheet.sentence(
        6,
        "`cell`: the cell, 0 to 63",
        () ->
            Sheet.range(
                0, 63, n -> Sheet.distance(30, n), Sheet.INDEX, Sheet.flying(30), (s, n) -> s.sendTo(0, n)));
    Sheet.sentence(
        6,
        "Returns the distance of the drone from the cell.",
        () -> {
          for (int from : new int[] {0, 7, 8, 27, 36, 55, 56, 63}) {
            DroneLightShow show = Sheet.flying(from).make();
            for (int cell = 0; cell < 64; cell++) {
              Sheet.due("from " + from + " to " + cell, show.sendTo(0, cell), Sheet.distance(from, cell));
            }
          }
          Sheet.Setup moved = Sheet.with(Sheet.with(Sheet.flying(0), s -> s.sendTo(0, 63)), s -> s.advance(3));
          Sheet.answers("after three moves", 11, moved, s -> s.sendTo(0, 63));
        });
    Sheet.sentence(
        6,
        "Throws `IndexOutOfBoundsException` if there is no such drone or cell",
        () -> {
          Sheet.thereAreDrones(n -> Sheet.flying(Sheet.row(n)), (s, n) -> s.sendTo(n, 20));
          Sheet.refusals(Sheet.INDEX, Sheet.flying(5), (s, n) -> s.sendTo(0, n), -1, 64);
          Sheet.refusals(Sheet.INDEX, Sheet.drones(5), (s, n) -> s.sendTo(0, n), -1, 64);
          Sheet.refused("neither drone nor cell", Sheet.INDEX, Sheet.flying(5), s -> s.sendTo(1, 64));
          Sheet.answers("both", 5, Sheet.flying(5), s -> s.sendTo(0, 0));
        });
    Sheet.sentence(
        6,
        "Throws `IllegalStateException` if the drone is not flying or is in an emergency",
        () -> {
          Sheet.answers("flying", 1, Sheet.flying(5), s -> s.sendTo(0, 6));
          Sheet.refused("grounded", Sheet.STATE, Sheet.drones(5), s -> s.sendTo(0, 6));
          Sheet.refused("beside a flying one", Sheet.STATE, Sheet.with(Sheet.flying(5), s -> s.addDrone(8)), s -> s.sendTo(1, 6));
          Sheet.refused("in an emergency", Sheet.STATE, Sheet.emergency(0, 63), s -> s.sendTo(0, 6));
          Sheet.refused("in an emergency, to its target", Sheet.STATE, Sheet.emergency(0, 63), s -> s.sendTo(0, 63));
          Sheet.Setup early = Sheet.with(Sheet.flyingWith(0, 31), s -> s.addPad(63));
          Sheet.answers("a tick before the emergency", 1, Sheet.with(early, s -> s.setReserve(30)), s -> s.sendTo(0, 1));
          Sheet.Setup late = Sheet.with(Sheet.flyingWith(0, 30), s -> s.addPad(63));
          Sheet.answers("at the reserve, before the tick", 1, Sheet.with(late, s -> s.setReserve(30)), s -> s.sendTo(0, 8));
          Sheet.refused("down after an emergency", Sheet.STATE, Sheet.emergency(0, 0), s -> s.sendTo(0, 6));
        });
  }

  private static void setReserve() {
    Sheet.sentence(
        7,
        "Sets the reserve.",
        () -> {
          for (int reserve : new int[] {5, 6, 29, 30}) {
            Sheet.Setup above =
                Sheet.with(Sheet.flying(0), s -> reserveAndTicks(s, reserve, 99 - reserve));
            Sheet.Setup at = Sheet.with(Sheet.flying(0), s -> reserveAndTicks(s, reserve, 100 - reserve));
            Sheet.answers("1 above it", "0:" + (reserve + 1) + "F", above, Sheet::fleet);
            Sheet.answers("at the reserve", "0:" + reserve + "G", at, Sheet::fleet);
          }
        });
    Sheet.sentence(
        7,
        "`percent`: the new reserve, 5 to 30",
        () -> {
          Sheet.range(5, 30, n -> 10, Sheet.ARGUMENT, Sheet.drones(), DroneLightShow::setReserve);
          Sheet.refusals(Sheet.ARGUMENT, Sheet.drones(), DroneLightShow::setReserve, 0, -5, -30, 100);
        });
    Sheet.sentence(
        7,
        "Returns the previous reserve.",
        () -> {
          DroneLightShow show = empty();
          int previous = 10;
          for (int reserve : new int[] {5, 30, 29, 6, 6, 10, 5}) {
            Sheet.due("setReserve(" + reserve + ")", show.setReserve(reserve), previous);
            previous = reserve;
          }
        });
    Sheet.sentence(
        7,
        "Throws `IllegalArgumentException` if the reserve is not from 5 to 30",
        () -> {
          DroneLightShow show = empty();
          Sheet.next("4", show, "throws." + Sheet.ARGUMENT, s -> s.setReserve(4));
          Sheet.next("31", show, "throws." + Sheet.ARGUMENT, s -> s.setReserve(31));
          Sheet.next("the first that is allowed", show, 10, s -> s.setReserve(5));
          Sheet.next("4 again", show, "throws." + Sheet.ARGUMENT, s -> s.setReserve(4));
          Sheet.next("the last that is allowed", show, 5, s -> s.setReserve(30));
          Sheet.next("31 again", show, "throws." + Sheet.ARGUMENT, s -> s.setReserve(31));
          Sheet.next("30 stays", show, 30, s -> s.setReserve(30));
        });
  }

  private static void reserveAndTicks(DroneLightShow show, int reserve, int ticks) {
    show.setReserve(reserve);
    Sheet.ticks(show, ticks);
  }

  private static void countsAndCells() {
    Sheet.sentence(
        8,
        "Returns the number of drones.",
        () -> {
          for (int count : new int[] {0, 1, 2, 9, 10}) {
            Sheet.answers("droneCount", count, Sheet.drones(Sheet.row(count)), DroneLightShow::droneCount);
            Sheet.answers("droneCount, flying", count, Sheet.flying(Sheet.row(count)), DroneLightShow::droneCount);
          }
          DroneLightShow show = Sheet.drones(Sheet.row(10)).make();
          Sheet.outcome(show, s -> s.addDrone(63));
          Sheet.due("droneCount after a refused drone", show.droneCount(), 10);
          show.undo();
          Sheet.due("droneCount after undo", show.droneCount(), 9);
        });
    Sheet.sentence(
        9,
        "Returns the cell of a drone.",
        () -> {
          DroneLightShow show = onTheirWay(1).make();
          int[] path = {0, 8, 16, 24, 32, 40, 48, 56, 57, 58, 59, 60, 61, 62, 63, 63};
          for (int cell : path) {
            Sheet.due("cellOf", show.cellOf(0), cell);
            show.advance(1);
          }
        });
    Sheet.sentence(
        9,
        "`drone`: the drone",
        () -> {
          DroneLightShow show = Sheet.drones(63, 0, 31, 32).make();
          int[] cells = {63, 0, 31, 32};
          for (int drone = 0; drone < 4; drone++) {
            Sheet.due("cellOf(" + drone + ")", show.cellOf(drone), cells[drone]);
          }
        });
    Sheet.sentence(
        9,
        "Returns the cell.",
        () -> {
          for (int cell = 0; cell < 64; cell++) {
            Sheet.answers("cellOf", cell, Sheet.drones(cell), s -> s.cellOf(0));
          }
        });
  }

  private static void batteriesAndStates() {
    Sheet.sentence(
        10,
        "Returns the battery of a drone.",
        () -> {
          DroneLightShow show = Sheet.flying(0).make();
          for (int battery = 100; battery > 10; battery--) {
            Sheet.due("battery", show.battery(0), battery);
            show.advance(1);
          }
          Sheet.due("the battery of a grounded drone", show.battery(0), 10);
        });
    Sheet.sentence(
        10,
        "`drone`: the drone",
        () -> {
          DroneLightShow show = onTheirWay(2).make();
          show.addDrone(40);
          show.sendTo(1, 1);
          show.advance(3);
          Sheet.due("batteries", show.battery(0) + " " + show.battery(1) + " " + show.battery(2), "94 97 100");
        });
    Sheet.sentence(
        10,
        "Returns the battery in percent, 0 to 100.",
        () -> {
          Sheet.answers("a new drone's", 100, Sheet.drones(0), s -> s.battery(0));
          Sheet.answers("after a tick", 99, Sheet.with(Sheet.flying(0), s -> s.advance(1)), s -> s.battery(0));
          Sheet.Setup low = Sheet.with(Sheet.flyingWith(0, 6), s -> s.addPad(63));
          int[] want = {6, 5, 3, 1, 0, 0, 0};
          for (int tick = 1; tick < want.length; tick++) {
            int count = tick;
            Sheet.answers("the end", want[tick], Sheet.with(low, s -> s.advance(count)), s -> s.battery(0));
          }
        });
    Sheet.sentence(
        11,
        "Returns whether a drone is flying.",
        () -> {
          Sheet.answers("grounded", false, Sheet.drones(0), s -> s.isFlying(0));
          Sheet.answers("flying", true, Sheet.flying(0), s -> s.isFlying(0));
          Sheet.answers("landed", false, Sheet.with(Sheet.flying(0), s -> landOnNewPad(s)), s -> s.isFlying(0));
        });
    Sheet.sentence(
        11,
        "Returns true if it is flying, false if it is grounded.",
        () -> {
          Sheet.answers("in an emergency", true, Sheet.emergency(0, 63), s -> s.isFlying(0));
          Sheet.answers("down in an emergency", false, Sheet.emergency(0, 0), s -> s.isFlying(0));
          Sheet.answers("a tick before it is forced down", true, Sheet.flyingWith(0, 6), s -> s.isFlying(0));
          Sheet.answers("forced down", false, Sheet.flyingWith(0, 5), s -> s.isFlying(0));
        });
    Sheet.sentence(
        11,
        "`drone`: the drone",
        () -> {
          DroneLightShow show = Sheet.drones(0, 1, 2).make();
          show.takeOff(1);
          Sheet.due("isFlying", show.isFlying(0) + " " + show.isFlying(1) + " " + show.isFlying(2), "false true false");
        });
    Sheet.sentence(
        12,
        "Returns whether a drone is in an emergency.",
        () -> {
          Sheet.Setup early = Sheet.with(Sheet.flyingWith(0, 31), s -> s.addPad(63));
          DroneLightShow show = Sheet.with(early, s -> s.setReserve(30)).make();
          Sheet.due("at 31 of 30", show.isInEmergency(0), false);
          show.advance(1);
          Sheet.due("at 30 of 30", show.isInEmergency(0), true);
          show.advance(13);
          Sheet.due("a tick before it is down", show.isInEmergency(0), true);
          show.advance(1);
          Sheet.due("down", show.isInEmergency(0), false);
        });
    Sheet.sentence(
        12,
        "Returns whether it is in an emergency.",
        () -> {
          Sheet.answers("grounded", false, Sheet.drones(0), s -> s.isInEmergency(0));
          Sheet.answers("flying", false, Sheet.flying(0), s -> s.isInEmergency(0));
          Sheet.answers("in one", true, Sheet.emergency(0, 63), s -> s.isInEmergency(0));
          Sheet.answers("forced down without pads", false, Sheet.spent(10), s -> s.isInEmergency(0));
        });
    Sheet.sentence(
        12,
        "`drone`: the drone",
        () -> {
          DroneLightShow show = Sheet.with(Sheet.emergency(0, 63), s -> s.addDrone(9)).make();
          show.takeOff(1);
          Sheet.due("isInEmergency", show.isInEmergency(0) + " " + show.isInEmergency(1), "true false");
        });
  }

  private static void targetsAndColours() {
    Sheet.sentence(
        13,
        "Returns the target of a drone.",
        () -> {
          Sheet.answers("before the way", 63, onTheirWay(1), s -> s.target(0));
          Sheet.answers("at its end", 63, Sheet.with(onTheirWay(1), s -> s.advance(14)), s -> s.target(0));
          Sheet.answers("later", 63, Sheet.with(onTheirWay(1), s -> s.advance(30)), s -> s.target(0));
          Sheet.answers("in an emergency", 5, Sheet.emergency(0, 63, 5), s -> s.target(0));
        });
    Sheet.sentence(
        13,
        "`drone`: the drone",
        () -> {
          DroneLightShow show = Sheet.with(onTheirWay(2), s -> s.sendTo(0, 0)).make();
          Sheet.due("targets", show.target(0) + " " + show.target(1), "0 63");
        });
    Sheet.sentence(
        13,
        "Returns the cell.",
        () -> {
          for (int cell : new int[] {0, 1, 62, 63}) {
            Sheet.answers("target", cell, Sheet.with(Sheet.flying(9), s -> s.sendTo(0, cell)), s -> s.target(0));
          }
        });
    Sheet.sentence(
        13,
        "Throws `NoSuchElementException` if the drone has no target",
        () -> {
          Sheet.refused("grounded", Sheet.MISSING, Sheet.drones(9), s -> s.target(0));
          Sheet.refused("flying without one", Sheet.MISSING, Sheet.flying(9), s -> s.target(0));
          Sheet.answers("with one", 0, Sheet.with(Sheet.flying(9), s -> s.sendTo(0, 0)), s -> s.target(0));
          Sheet.refused("in the cell 0 without one", Sheet.MISSING, Sheet.flying(0), s -> s.target(0));
          Sheet.Setup sent = Sheet.with(Sheet.flying(0), s -> s.sendTo(0, 63));
          Sheet.refused("landed", Sheet.MISSING, Sheet.with(sent, s -> landOnNewPad(s)), s -> s.target(0));
          Sheet.refused("down after an emergency", Sheet.MISSING, Sheet.emergency(0, 0), s -> s.target(0));
        });
    Sheet.sentence(
        14,
        "Returns the colour of a drone.",
        () -> {
          DroneLightShow show = Sheet.with(Sheet.drones(9), s -> s.cueColour(0, 2, 5)).make();
          show.advance(1);
          Sheet.due("before the cue", show.colour(0), 0);
          show.advance(1);
          Sheet.due("at the cue", show.colour(0), 5);
          show.advance(30);
          Sheet.due("after the cue", show.colour(0), 5);
        });
    Sheet.sentence(
        14,
        "`drone`: the drone",
        () -> {
          DroneLightShow show = Sheet.drones(1, 2, 3).make();
          show.cueColour(1, 1, 4);
          show.cueColour(2, 1, 7);
          show.advance(1);
          Sheet.due("colours", "" + show.colour(0) + show.colour(1) + show.colour(2), "047");
        });
    Sheet.sentence(
        14,
        "Returns the colour, 0 to 7.",
        () -> {
          for (int colour = 0; colour <= 7; colour++) {
            int number = colour;
            Sheet.Setup cued = Sheet.with(Sheet.drones(9), s -> s.cueColour(0, 1, 7 - number));
            Sheet.Setup twice = Sheet.with(cued, s -> s.cueColour(0, 1, number));
            Sheet.answers("colour", colour, Sheet.with(twice, s -> s.advance(1)), s -> s.colour(0));
          }
          for (int colour : new int[] {-1, 8}) {
            Sheet.refused("the colour " + colour, Sheet.ARGUMENT, Sheet.drones(9), s -> s.cueColour(0, 1, colour));
          }
        });
  }

  private static void cells() {
    Sheet.sentence(
        15,
        "Returns the drone in a cell.",
        () -> {
          DroneLightShow show = Sheet.with(Sheet.flying(27), s -> s.sendTo(0, 28)).make();
          Sheet.due("droneAt(27)", show.droneAt(27), 0);
          show.advance(1);
          Sheet.due("droneAt(28)", show.droneAt(28), 0);
          Sheet.next("droneAt(27)", show, "throws." + Sheet.MISSING, s -> s.droneAt(27));
        });
    Sheet.sentence(
        15,
        "`cell`: the cell, 0 to 63",
        () -> {
          Sheet.Setup ends = Sheet.drones(0, 1, 62, 63);
          Sheet.range(0, 63, n -> n < 2 ? n : n - 60, Sheet.INDEX, ends, DroneLightShow::droneAt);
        });
    Sheet.sentence(
        15,
        "Returns the drone.",
        () -> {
          DroneLightShow show = Sheet.with(Sheet.drones(Sheet.row(10)), s -> s.takeOff(3)).make();
          for (int drone = 0; drone < 10; drone++) {
            Sheet.due("droneAt(" + drone + ")", show.droneAt(drone), drone);
          }
        });
    Sheet.sentence(
        15,
        "Throws `IndexOutOfBoundsException` if there is no such cell",
        () -> Sheet.refusals(Sheet.INDEX, Sheet.drones(0, 63), DroneLightShow::droneAt, -1, 64, 72, -8));
    Sheet.sentence(
        15,
        "Throws `NoSuchElementException` if no drone is in the cell",
        () -> {
          Sheet.refusals(Sheet.MISSING, Sheet.drones(), DroneLightShow::droneAt, 0, 63);
          Sheet.refusals(Sheet.MISSING, Sheet.drones(27), DroneLightShow::droneAt, 26, 28, 19, 35);
          Sheet.answers("a drone is in it", 0, Sheet.drones(27), s -> s.droneAt(27));
          Sheet.refusals(
              Sheet.MISSING, Sheet.with(Sheet.drones(5, 27), DroneLightShow::undo), DroneLightShow::droneAt, 27);
        });
    Sheet.sentence(
        16,
        "Returns whether a cell is a pad.",
        () -> {
          DroneLightShow show = padded(0, 63, 31, 32).make();
          for (int cell = 0; cell < 64; cell++) {
            boolean want = cell == 0 || cell == 63 || cell == 31 || cell == 32;
            Sheet.due("isPad(" + cell + ")", show.isPad(cell), want);
          }
        });
    Sheet.sentence(
        16,
        "`cell`: the cell, 0 to 63",
        () -> Sheet.range(0, 63, n -> n == 0 || n == 63, Sheet.INDEX, padded(0, 63), DroneLightShow::isPad));
    Sheet.sentence(
        16,
        "Returns whether it is a pad.",
        () -> {
          Sheet.answers("before", false, padded(), s -> s.isPad(9));
          Sheet.answers("after", true, padded(9), s -> s.isPad(9));
          Sheet.answers("undone", false, Sheet.with(padded(9), DroneLightShow::undo), s -> s.isPad(9));
          Sheet.answers("with a drone over it", true, overPads(1), s -> s.isPad(0));
        });
    Sheet.sentence(
        16,
        "Throws `IndexOutOfBoundsException` if there is no such cell",
        () -> Sheet.refusals(Sheet.INDEX, padded(0, 63), DroneLightShow::isPad, -1, 64, 127, -64));
  }

  private static Sheet.Setup droneAndPads(int cell, int... pads) {
    return Sheet.with(padded(pads), s -> s.addDrone(cell));
  }

  private static void pads() {
    Sheet.sentence(
        17,
        "The pad that is nearest to a drone is the one with the least distance from its cell; of several, the one with the lowest cell number, in whatever order they were added.",
        () -> nearestOfTwo(DroneLightShow::nearestPad));
    Sheet.sentence(
        18,
        "The pad that is nearest to a drone is the one with the least distance from its cell; of several, the one with the lowest cell number, in whatever order they were added.",
        () -> nearestOfTwo(DroneLightShow::nearestPadByRings));
  }

  /** All pairs of pads whose distances are the same or differ by 1, added in both orders. */
  private static void nearestOfTwo(Sheet.NumberedCall call) {
    for (int cell = 0; cell < 64; cell++) {
      for (int low = 0; low < 64; low++) {
        for (int high = low + 1; high < 64; high++) {
          int gap = Sheet.distance(cell, low) - Sheet.distance(cell, high);
          if (Math.abs(gap) <= 1 && (cell + low + high) % 3 == 0) {
            int want = gap <= 0 ? low : high;
            String what = "the drone in " + cell + ", the pads " + low + " and " + high;
            Sheet.answers(what, want, droneAndPads(cell, low, high), s -> call.on(s, 0));
            Sheet.answers(what + " backwards", want, droneAndPads(cell, high, low), s -> call.on(s, 0));
          }
        }
      }
    }
    Sheet.answers("four alike", 19, droneAndPads(27, 35, 28, 19, 26), s -> call.on(s, 0));
    Sheet.answers("four alike, the other way", 19, droneAndPads(27, 26, 19, 28, 35), s -> call.on(s, 0));
  }

  private static void nearestPads() {
    Sheet.sentence(
        17,
        "Returns the pad that is nearest to a drone, found by comparing all pads.",
        () -> {
          Sheet.answers("the fourth pad", 28, droneAndPads(27, 0, 63, 7, 28), s -> s.nearestPad(0));
          Sheet.answers("the first pad", 28, droneAndPads(27, 28, 63, 7, 0), s -> s.nearestPad(0));
        });
    Sheet.sentence(
        18,
        "Returns the same pad as nearestPad(), found by looking at all cells with the distance 0, then with the distance 1, and so on.",
        () -> {
          for (int pad = 0; pad < 64; pad++) {
            for (int cell : new int[] {0, 7, 27, 56, 63}) {
              Sheet.answers("the pad " + pad, pad, droneAndPads(cell, pad), s -> s.nearestPadByRings(0));
            }
          }
          Sheet.answers("the distance 0", 0, droneAndPads(0, 1, 8, 0), s -> s.nearestPadByRings(0));
          Sheet.answers("the distance 1", 1, droneAndPads(0, 63, 8, 1), s -> s.nearestPadByRings(0));
          Sheet.answers("the distance 13", 55, droneAndPads(0, 63, 62, 55), s -> s.nearestPadByRings(0));
          Sheet.answers("the distance 14", 63, droneAndPads(0, 63), s -> s.nearestPadByRings(0));
        });
    nearestPad(17, DroneLightShow::nearestPad);
    nearestPad(18, DroneLightShow::nearestPadByRings);
  }

  private static void nearestPad(int promise, Sheet.NumberedCall call) {
    Sheet.sentence(
        promise,
        "`drone`: the drone",
        () -> {
          DroneLightShow show = Sheet.with(padded(0, 63), s -> s.addDrone(62)).make();
          show.addDrone(1);
          Sheet.next("of the drone in 62", show, 63, s -> call.on(s, 0));
          Sheet.next("of the drone in 1", show, 0, s -> call.on(s, 1));
        });
    Sheet.sentence(
        promise,
        "Returns the cell of the pad.",
        () -> {
          for (int pad : new int[] {0, 1, 62, 63}) {
            Sheet.answers("the only pad", pad, droneAndPads(pad, pad), s -> call.on(s, 0));
            Sheet.answers("the only pad, far off", pad, droneAndPads(63 - pad, pad), s -> call.on(s, 0));
          }
        });
    Sheet.sentence(
        promise,
        "Throws `NoSuchElementException` if there are no pads",
        () -> {
          Sheet.refused("no pads", Sheet.MISSING, Sheet.drones(9), s -> call.on(s, 0));
          Sheet.answers("one pad", 0, droneAndPads(9, 0), s -> call.on(s, 0));
          Sheet.Setup undone = Sheet.with(Sheet.with(Sheet.drones(9), s -> s.addPad(0)), DroneLightShow::undo);
          Sheet.refused("the pad is undone", Sheet.MISSING, undone, s -> call.on(s, 0));
        });
  }

  /** One test for each promise whose call is refused where there is no such drone. */
  private static void noSuchDrone() {
    String words = "Throws `IndexOutOfBoundsException` if there is no such drone";
    Object[][] calls = {
      {4, (Sheet.NumberedCall) DroneLightShow::takeOff},
      {5, (Sheet.NumberedCall) DroneLightShow::land},
      {9, (Sheet.NumberedCall) DroneLightShow::cellOf},
      {10, (Sheet.NumberedCall) DroneLightShow::battery},
      {11, (Sheet.NumberedCall) DroneLightShow::isFlying},
      {12, (Sheet.NumberedCall) DroneLightShow::isInEmergency},
      {13, (Sheet.NumberedCall) DroneLightShow::target},
      {14, (Sheet.NumberedCall) DroneLightShow::colour},
      {17, (Sheet.NumberedCall) DroneLightShow::nearestPad},
      {18, (Sheet.NumberedCall) DroneLightShow::nearestPadByRings},
      {29, (Sheet.NumberedCall) DroneLightShow::wantedCell},
      {33, (Sheet.NumberedCall) (show, drone) -> show.batteryAfter(drone, 1)},
      {34, (Sheet.NumberedCall) (show, drone) -> show.cueColour(drone, 1, 1)},
    };
    for (Object[] row : calls) {
      int promise = (int) row[0];
      Sheet.sentence(
          promise, words, () -> Sheet.thereAreDrones(n -> ready(promise, n), (Sheet.NumberedCall) row[1]));
    }
  }

  private static Sheet.Setup ready(int promise, int count) {
    switch (promise) {
      case 4:
        return Sheet.drones(Sheet.row(count));
      case 13:
      case 29:
        return onTheirWay(count);
      default:
        return overPads(count);
    }
  }
}
