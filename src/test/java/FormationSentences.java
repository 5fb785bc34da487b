/** Promises 19 to 26, and of the terms: the formations. */
final class FormationSentences {
  private FormationSentences() {}

  static void all() {
    addToFormation();
    clearFormation();
    assign();
    whoTakesPart();
    whichDrone();
    masks();
    matches();
    coverage();
    noSuchFormation();
  }

  /** A show whose formation has the cells. */
  private static Sheet.Setup formed(int formation, int... cells) {
    return Sheet.with(Sheet.drones(), show -> form(show, formation, cells));
  }

  private static void form(DroneLightShow show, int formation, int... cells) {
    for (int cell : cells) {
      show.addToFormation(formation, cell);
    }
  }

  private static void addToFormation() {
    Sheet.sentence(
        19,
        "There are 4 formations, numbered from 0.",
        () -> {
          DroneLightShow show = new DroneLightShow();
          for (int formation = 0; formation < 4; formation++) {
            Sheet.due("the first cell of " + formation, show.addToFormation(formation, 8 + formation), 1);
          }
          Sheet.due("masks", Sheet.masks(show), " 256 512 1024 2048");
          Sheet.refusals(Sheet.INDEX, Sheet.drones(), (s, n) -> s.addToFormation(n, 0), -1, 4);
        });
    Sheet.sentence(
        19,
        "A formation is a set of at most 10 cells.",
        () -> {
          DroneLightShow show = new DroneLightShow();
          for (int cell = 0; cell < 10; cell++) {
            Sheet.due("the cell " + cell, show.addToFormation(2, 63 - cell), cell + 1);
          }
          Sheet.refused("an eleventh", Sheet.STATE, formed(2, Sheet.row(10)), s -> s.addToFormation(2, 63));
          Sheet.refused("one twice", Sheet.ARGUMENT, formed(2, 63), s -> s.addToFormation(2, 63));
          Sheet.answers("one in two formations", 1, formed(2, 63), s -> s.addToFormation(1, 63));
        });
    Sheet.sentence(
        19,
        "Adds a cell to a formation.",
        () -> {
          Sheet.answers("before", " 0 2 0 0", formed(1, 1), Sheet::masks);
          Sheet.answers("after", " 0 3 0 0", formed(1, 1, 0), Sheet::masks);
          Sheet.answers("the last cell", " 0 -9223372036854775806 0 0", formed(1, 1, 63), Sheet::masks);
        });
    Sheet.sentence(
        19,
        "`formation`: the formation, 0 to 3",
        () ->
            Sheet.range(0, 3, n -> 1, Sheet.INDEX, Sheet.drones(), (s, n) -> s.addToFormation(n, 20)));
    Sheet.sentence(
        19,
        "`cell`: the cell, 0 to 63",
        () ->
            Sheet.range(0, 63, n -> 2, Sheet.INDEX, formed(3, 20), (s, n) -> s.addToFormation(3, n)));
    Sheet.sentence(
        19,
        "Returns the number of cells of the formation after the call.",
        () -> {
          for (int count : new int[] {0, 1, 8, 9}) {
            Sheet.Setup setup = Sheet.with(formed(0, Sheet.row(count)), s -> form(s, 1, 7, 8, 9));
            Sheet.answers("with " + count, count + 1, setup, s -> s.addToFormation(0, 30));
          }
        });
    Sheet.sentence(
        19,
        "Throws `IndexOutOfBoundsException` if there is no such formation or cell",
        () -> {
          Sheet.refusals(Sheet.INDEX, formed(0, 0), (s, n) -> s.addToFormation(n, 0), -1, 4);
          Sheet.refusals(Sheet.INDEX, formed(0, 0), (s, n) -> s.addToFormation(0, n), -1, 64, 128);
          Sheet.refused("neither", Sheet.INDEX, formed(0, 0), s -> s.addToFormation(4, 64));
          Sheet.refusals(
              Sheet.INDEX, formed(0, Sheet.row(10)), (s, n) -> s.addToFormation(0, n), -1, 64);
          Sheet.answers("both", 2, formed(0, 0), s -> s.addToFormation(0, 63));
        });
    Sheet.sentence(
        19,
        "Throws `IllegalArgumentException` if the cell belongs to the formation",
        () -> {
          for (int cell : new int[] {0, 31, 32, 63}) {
            Sheet.refused(
                "the cell " + cell, Sheet.ARGUMENT, formed(0, 5, cell), s -> s.addToFormation(0, cell));
          }
          Sheet.answers("the cell before it", 2, formed(0, 27), s -> s.addToFormation(0, 26));
          Sheet.answers("the cell behind it", 2, formed(0, 27), s -> s.addToFormation(0, 28));
          Sheet.answers("another formation", 1, formed(0, 27), s -> s.addToFormation(3, 27));
          Sheet.Setup cleared = Sheet.with(formed(0, 27), s -> s.clearFormation(0));
          Sheet.answers("cleared", 1, cleared, s -> s.addToFormation(0, 27));
          Sheet.refused(
              "among ten", Sheet.ARGUMENT, formed(0, Sheet.row(10)), s -> s.addToFormation(0, 9));
        });
    Sheet.sentence(
        19,
        "Throws `IllegalStateException` if the formation has 10 cells",
        () -> {
          Sheet.answers("with 8", 9, formed(0, Sheet.row(8)), s -> s.addToFormation(0, 40));
          Sheet.answers("with 9", 10, formed(0, Sheet.row(9)), s -> s.addToFormation(0, 40));
          Sheet.refused("with 10", Sheet.STATE, formed(0, Sheet.row(10)), s -> s.addToFormation(0, 40));
          Sheet.answers(
              "the other with 10", 1, formed(0, Sheet.row(10)), s -> s.addToFormation(1, 40));
          Sheet.Setup undone = Sheet.with(formed(0, Sheet.row(10)), DroneLightShow::undo);
          Sheet.answers("with 9 after undo", 10, undone, s -> s.addToFormation(0, 40));
        });
  }

  private static void clearFormation() {
    Sheet.sentence(
        20,
        "Removes all cells of a formation.",
        () -> {
          Sheet.Setup two = Sheet.with(formed(0, 0, 63), s -> form(s, 3, 5));
          Sheet.answers("before", " -9223372036854775807 0 0 32", two, Sheet::masks);
          Sheet.answers("after", " 0 0 0 32", Sheet.with(two, s -> s.clearFormation(0)), Sheet::masks);
          Sheet.Setup both = Sheet.with(Sheet.with(two, s -> s.clearFormation(0)), s -> s.clearFormation(3));
          Sheet.answers("both", " 0 0 0 0", both, Sheet::masks);
          Sheet.Setup sent = Sheet.with(Sheet.flying(0), s -> form(s, 0, 9));
          Sheet.Setup assigned = Sheet.with(sent, s -> s.assign(0));
          Sheet.answers("targets stay", "0:100F>9", Sheet.with(assigned, s -> s.clearFormation(0)), Sheet::fleet);
        });
    Sheet.sentence(
        20,
        "`formation`: the formation, 0 to 3",
        () -> {
          Sheet.range(0, 3, n -> 0, Sheet.INDEX, Sheet.drones(), DroneLightShow::clearFormation);
          Sheet.Setup last = formed(3, 5, 6);
          Sheet.range(0, 3, n -> n == 3 ? 2 : 0, Sheet.INDEX, last, DroneLightShow::clearFormation);
        });
    Sheet.sentence(
        20,
        "Returns the number of cells removed, possibly 0.",
        () -> {
          for (int count : new int[] {0, 1, 2, 9, 10}) {
            Sheet.Setup setup = formed(1, Sheet.row(count));
            Sheet.answers("clearFormation of " + count, count, setup, s -> s.clearFormation(1));
            Sheet.answers(
                "and again", 0, Sheet.with(setup, s -> s.clearFormation(1)), s -> s.clearFormation(1));
          }
        });
  }

  /** Drones that fly in the cells, and the cells of the formation 0. */
  private static Sheet.Setup choir(int[] cells, int... formation) {
    return Sheet.with(Sheet.flying(cells), s -> form(s, 0, formation));
  }

  private static int[] in(int... cells) {
    return cells;
  }

  private static void assigned(String what, String want, Sheet.Setup setup) {
    Sheet.answers(what, want, Sheet.with(setup, s -> s.assign(0)), Sheet::fleet);
  }

  private static void assign() {
    Sheet.sentence(
        21,
        "Assigns the drones to the cells of a formation.",
        () -> {
          assigned("two of two", "0:100F>1 63:100F>62", choir(in(0, 63), 62, 1));
          assigned("its own cell", "0:100F>0", choir(in(0), 0));
          assigned("far away", "0:100F>63", choir(in(0), 63));
        });
    Sheet.sentence(
        21,
        "`formation`: the formation, 0 to 3",
        () -> {
          Sheet.Setup all =
              Sheet.with(
                  Sheet.flying(0),
                  show -> {
                    for (int formation = 0; formation < 4; formation++) {
                      show.addToFormation(formation, 10 + formation);
                    }
                  });
          Sheet.range(0, 3, n -> 1, Sheet.INDEX, all, DroneLightShow::assign);
          for (int formation = 0; formation < 4; formation++) {
            int number = formation;
            Sheet.answers(
                "assign(" + formation + ")",
                10 + formation,
                Sheet.with(all, s -> s.assign(number)),
                s -> s.target(0));
          }
        });
    Sheet.sentence(
        21,
        "Returns the number of drones that get a target.",
        () -> {
          for (int cells : new int[] {1, 2, 3, 4, 10}) {
            Sheet.Setup three = choir(in(61, 62, 63), Sheet.row(cells));
            Sheet.answers(cells + " cells, 3 drones", Math.min(cells, 3), three, s -> s.assign(0));
          }
          Sheet.Setup ten = choir(Sheet.row(10), 54, 55, 56, 57, 58, 59, 60, 61, 62, 63);
          Sheet.answers("10 cells, 10 drones", 10, ten, s -> s.assign(0));
          Sheet.answers("1 cell, no drone", 0, formed(0, 5), s -> s.assign(0));
          Sheet.Setup grounded = Sheet.with(Sheet.drones(5), s -> form(s, 0, 5));
          Sheet.answers("1 cell, a grounded drone", 0, grounded, s -> s.assign(0));
        });
    Sheet.sentence(
        21,
        "Throws `IllegalStateException` if the formation has no cells",
        () -> {
          Sheet.refused("no cells", Sheet.STATE, choir(in(0)), s -> s.assign(0));
          Sheet.answers("one cell", 1, choir(in(0), 63), s -> s.assign(0));
          Sheet.refused("another formation's cell", Sheet.STATE, choir(in(0), 63), s -> s.assign(1));
          Sheet.Setup sent = Sheet.with(choir(in(0)), s -> s.sendTo(0, 7));
          Sheet.refused("a target stays", Sheet.STATE, sent, s -> s.assign(0));
          Sheet.Setup cleared = Sheet.with(choir(in(0), 63), s -> s.clearFormation(0));
          Sheet.refused("cleared", Sheet.STATE, cleared, s -> s.assign(0));
        });
  }

  private static void whoTakesPart() {
    Sheet.sentence(
        21,
        "When the drones are assigned to a formation, only flying drones that are not in an emergency take part.",
        () -> {
          Sheet.Setup grounded = Sheet.with(choir(in(0), 9), s -> s.addDrone(9));
          assigned("a grounded drone in the cell", "0:100F>9 9:100G", grounded);
          Sheet.Setup urgent = Sheet.with(Sheet.emergency(0, 63), s -> s.addDrone(56));
          Sheet.Setup both = Sheet.with(Sheet.with(urgent, s -> s.takeOff(1)), s -> form(s, 0, 0, 1));
          assigned("a drone in an emergency in the cell", "0:30FE>63 56:100F>0", both);
          Sheet.Setup early = Sheet.with(Sheet.flyingWith(0, 31), s -> s.addPad(63));
          Sheet.Setup late = Sheet.with(Sheet.with(early, s -> s.setReserve(30)), s -> form(s, 0, 5));
          assigned("a tick before the emergency", "0:31F>5", late);
          assigned("a tick later", "0:30FE>63", Sheet.with(late, s -> s.advance(1)));
        });
    Sheet.sentence(
        21,
        "First, all of them lose their targets.",
        () -> {
          Sheet.Setup sent = Sheet.with(choir(in(0, 1, 2), 17), FormationSentences::sendAllTo63);
          assigned("two are left without", "0:100F 1:100F>17 2:100F", sent);
          Sheet.Setup near = Sheet.with(choir(in(17, 63), 17), s -> s.sendTo(0, 17));
          assigned("a drone keeps its target by getting it again", "17:100F>17 63:100F", near);
        });
    Sheet.sentence(
        21,
        "Then the cells of the formation are visited in ascending order of their numbers.",
        () -> {
          assigned("the lower cell takes the drone", "10:100F>9", choir(in(10), 11, 9));
          assigned("added the other way round", "10:100F>9", choir(in(10), 9, 11));
          assigned("0 and 63", "62:100F>0", choir(in(62), 63, 0));
          assigned("31 and 32", "32:100F>31", choir(in(32), 32, 31));
          assigned("the nearer drone is taken already", "9:100F>8 63:100F>10", choir(in(9, 63), 10, 8));
        });
    Sheet.sentence(
        21,
        "If no such drone is left, the assignment ends.",
        () -> {
          assigned("as many cells as drones", "0:100F>0 1:100F>1", choir(in(0, 1), 0, 1));
          assigned("a cell more", "0:100F>0 1:100F>1", choir(in(0, 1), 0, 1, 2));
          assigned("a cell less", "0:100F>0 1:100F", choir(in(0, 1), 0));
          assigned("ten cells more", "5:100F>0", choir(in(5), Sheet.row(10)));
        });
  }

  private static void whichDrone() {
    Sheet.sentence(
        21,
        "Each visited cell becomes the target of the nearest of these drones that has no target yet; of several with the same distance, of the one with the lowest number.",
        () -> {
          assigned("the nearer one by 1", "25:100F 28:100F>27", choir(in(25, 28), 27));
          assigned("the nearer one by 1 has the lower number", "28:100F>27 25:100F", choir(in(28, 25), 27));
          assigned("the same distance", "28:100F>27 26:100F", choir(in(28, 26), 27));
          assigned("the same distance, changed", "26:100F>27 28:100F", choir(in(26, 28), 27));
          assigned("three alike", "35:100F>27 28:100F 19:100F", choir(in(35, 28, 19), 27));
          assigned("the next of three", "35:100F>27 28:100F>28 19:100F", choir(in(35, 28, 19), 27, 28));
          assigned("the nearest has a target already", "26:100F>25 63:100F>27", choir(in(26, 63), 25, 27));
          assigned("the distance 0", "26:100F 27:100F>27", choir(in(26, 27), 27));
          assigned("the distance 14", "63:100F>0", choir(in(63), 0));
        });
  }

  private static void sendAllTo63(DroneLightShow show) {
    for (int drone = 0; drone < show.droneCount(); drone++) {
      show.sendTo(drone, 63);
    }
  }

  private static void masks() {
    Sheet.sentence(
        22,
        "Returns the cells of a formation as a bit mask.",
        () -> {
          Sheet.answers("of none", 0L, formed(0), s -> s.formationMask(0));
          Sheet.answers("of ten", 1023L, formed(0, Sheet.row(10)), s -> s.formationMask(0));
          Sheet.Setup cleared = Sheet.with(formed(0, Sheet.row(10)), s -> s.clearFormation(0));
          Sheet.answers("of none again", 0L, cleared, s -> s.formationMask(0));
        });
    Sheet.sentence(
        22,
        "`formation`: the formation, 0 to 3",
        () -> {
          Sheet.Setup two = Sheet.with(formed(0, 4), s -> form(s, 3, 5));
          Sheet.range(
              0, 3, n -> n == 0 ? 16L : n == 3 ? 32L : 0L, Sheet.INDEX, two, DroneLightShow::formationMask);
        });
    Sheet.sentence(
        22,
        "Returns the mask; bit k is set if the cell k belongs to the formation.",
        () -> {
          for (int cell = 0; cell < 64; cell++) {
            Sheet.answers("the cell " + cell, 1L << cell, formed(2, cell), s -> s.formationMask(2));
          }
          Sheet.answers("0 and 63", 0x8000000000000001L, formed(2, 63, 0), s -> s.formationMask(2));
          Sheet.answers("31 and 32", 0x180000000L, formed(2, 31, 32), s -> s.formationMask(2));
        });
    Sheet.sentence(
        23,
        "Returns the cells with a drone as a bit mask.",
        () -> {
          Sheet.answers("of none", 0L, Sheet.drones(), DroneLightShow::occupiedMask);
          Sheet.answers("of ten", 1023L, Sheet.drones(Sheet.row(10)), DroneLightShow::occupiedMask);
          DroneLightShow show = Sheet.with(Sheet.flying(31), s -> s.sendTo(0, 32)).make();
          show.advance(1);
          Sheet.due("after a move", show.occupiedMask(), 1L << 39);
        });
    Sheet.sentence(
        23,
        "Returns the mask; bit k is set if a drone is in the cell k, flying or grounded.",
        () -> {
          for (int cell = 0; cell < 64; cell++) {
            Sheet.answers("grounded", 1L << cell, Sheet.drones(cell), DroneLightShow::occupiedMask);
            Sheet.answers("flying", 1L << cell, Sheet.flying(cell), DroneLightShow::occupiedMask);
          }
          Sheet.Setup both = Sheet.with(Sheet.flying(0), s -> s.addDrone(63));
          Sheet.answers("one of each", 0x8000000000000001L, both, DroneLightShow::occupiedMask);
        });
  }

  private static void matches() {
    matchCount(24, "Counts the cells of a formation with a flying drone by bit operations on masks.", DroneLightShow::matchCount);
    matchCount(25, "Counts the same cells as matchCount() by looking at all cells.", DroneLightShow::matchCountByScan);
  }

  private static void matchCount(int promise, String words, Sheet.NumberedCall call) {
    Sheet.sentence(
        promise,
        words,
        () -> {
          for (int cell = 0; cell < 64; cell++) {
            Sheet.Setup over = choir(in(cell), cell, (cell + 1) % 64);
            Sheet.answers("a drone over the cell " + cell, 1, over, s -> call.on(s, 0));
            Sheet.Setup beside = choir(in(cell), (cell + 63) % 64, (cell + 1) % 64);
            Sheet.answers("a drone beside the cells", 0, beside, s -> call.on(s, 0));
            int place = cell;
            Sheet.Setup grounded = Sheet.with(Sheet.drones(cell), s -> form(s, 0, place));
            Sheet.answers("a grounded drone in the cell", 0, grounded, s -> call.on(s, 0));
          }
          Sheet.Setup urgent = Sheet.with(Sheet.emergency(0, 63), s -> form(s, 0, 0));
          Sheet.answers("a drone in an emergency", 1, urgent, s -> call.on(s, 0));
        });
    Sheet.sentence(
        promise,
        "`formation`: the formation, 0 to 3",
        () -> {
          Sheet.Setup two = Sheet.with(choir(in(4, 5), 4, 5), s -> form(s, 3, 5, 6));
          Sheet.range(0, 3, n -> n == 0 ? 2 : n == 3 ? 1 : 0, Sheet.INDEX, two, call);
        });
    Sheet.sentence(
        promise,
        "Returns the number of cells.",
        () -> {
          for (int count : new int[] {1, 2, 9, 10}) {
            Sheet.Setup over = choir(Sheet.row(count), Sheet.row(10));
            Sheet.answers(count + " drones over 10 cells", count, over, s -> call.on(s, 0));
            Sheet.Setup more = choir(Sheet.row(10), Sheet.row(count));
            Sheet.answers("10 drones over " + count + " cells", count, more, s -> call.on(s, 0));
          }
          Sheet.answers("no cells", 0, choir(Sheet.row(10)), s -> call.on(s, 0));
          Sheet.answers("no drones", 0, formed(0, Sheet.row(10)), s -> call.on(s, 0));
        });
  }

  private static void coverage() {
    Sheet.sentence(
        26,
        "Returns the share of the cells of a formation that have a flying drone, both numbers converted to float.",
        () -> {
          for (int cells = 1; cells <= 10; cells++) {
            for (int drones = 0; drones <= cells; drones++) {
              float want = (float) drones / (float) cells;
              Sheet.Setup over = choir(Sheet.row(drones), Sheet.row(cells));
              Sheet.answers(drones + " of " + cells, want, over, s -> s.coverage(0));
            }
          }
        });
    Sheet.sentence(
        26,
        "`formation`: the formation, 0 to 3",
        () -> {
          Sheet.Setup all = Sheet.with(choir(in(4), 4, 5), s -> form(s, 3, 4));
          Sheet.Setup four = Sheet.with(Sheet.with(all, s -> form(s, 1, 6)), s -> form(s, 2, 7));
          Sheet.range(0, 3, n -> n == 0 ? 0.5f : n == 3 ? 1f : 0f, Sheet.INDEX, four, DroneLightShow::coverage);
        });
    Sheet.sentence(
        26,
        "Returns the share.",
        () -> {
          Sheet.answers("none", 0f, choir(in(3), 4), s -> s.coverage(0));
          Sheet.answers("a third", 0.33333334f, choir(in(4), 4, 5, 6), s -> s.coverage(0));
          Sheet.answers("all", 1f, choir(in(4), 4), s -> s.coverage(0));
          Sheet.Setup grounded = Sheet.with(Sheet.drones(4), s -> form(s, 0, 4));
          Sheet.answers("a grounded drone", 0f, grounded, s -> s.coverage(0));
        });
    Sheet.sentence(
        26,
        "Throws `ArithmeticException` if the formation has no cells",
        () -> {
          Sheet.refused("no cells", Sheet.ARITHMETIC, choir(in(4)), s -> s.coverage(0));
          Sheet.answers("one cell", 1f, choir(in(4), 4), s -> s.coverage(0));
          Sheet.refused("another formation's cell", Sheet.ARITHMETIC, choir(in(4), 4), s -> s.coverage(1));
          Sheet.Setup cleared = Sheet.with(choir(in(4), 4), s -> s.clearFormation(0));
          Sheet.refused("cleared", Sheet.ARITHMETIC, cleared, s -> s.coverage(0));
        });
  }

  /** One test for each promise whose call is refused where there is no such formation. */
  private static void noSuchFormation() {
    String words = "Throws `IndexOutOfBoundsException` if there is no such formation";
    Object[][] calls = {
      {20, 1, (Sheet.NumberedCall) DroneLightShow::clearFormation},
      {21, 1, (Sheet.NumberedCall) DroneLightShow::assign},
      {22, 16L, (Sheet.NumberedCall) DroneLightShow::formationMask},
      {24, 1, (Sheet.NumberedCall) DroneLightShow::matchCount},
      {25, 1, (Sheet.NumberedCall) DroneLightShow::matchCountByScan},
      {26, 1f, (Sheet.NumberedCall) DroneLightShow::coverage},
    };
    for (Object[] row : calls) {
      Sheet.NumberedCall call = (Sheet.NumberedCall) row[2];
      Sheet.sentence(
          (int) row[0],
          words,
          () -> {
            Sheet.Setup all =
                Sheet.with(
                    Sheet.flying(4),
                    show -> {
                      for (int formation = 0; formation < 4; formation++) {
                        show.addToFormation(formation, 4);
                      }
                    });
            Sheet.range(0, 3, n -> row[1], Sheet.INDEX, all, call);
            Sheet.refusals(Sheet.INDEX, Sheet.drones(), call, -1, 4, 8, 64);
          });
    }
  }
}
