/** Promises 27 to 33, and of the terms: the moves and the ticks with their six steps. */
final class TickSentences {
  private TickSentences() {}

  static void all() {
    advance();
    now();
    order();
    stepOne();
    stepTwo();
    stepThree();
    stepFour();
    stepFive();
    stepSix();
    moves();
    wantedCell();
    conflicts();
    droneAtRank();
    batteryAfter();
  }

  /** The first drones are sent to the targets, in the order of their numbers. */
  private static Sheet.Setup sent(Sheet.Setup setup, int... targets) {
    return Sheet.with(
        setup,
        show -> {
          for (int drone = 0; drone < targets.length; drone++) {
            show.sendTo(drone, targets[drone]);
          }
        });
  }

  /** With grounded drones in further cells. */
  private static Sheet.Setup among(Sheet.Setup setup, int... cells) {
    return Sheet.with(
        setup,
        show -> {
          for (int cell : cells) {
            show.addDrone(cell);
          }
        });
  }

  private static Sheet.Setup reserved(Sheet.Setup setup, int reserve) {
    return Sheet.with(setup, show -> show.setReserve(reserve));
  }

  private static void shows(String what, String want, Sheet.Setup setup) {
    Sheet.answers(what, want, setup, Sheet::fleet);
  }

  private static void counts(String what, String want, Sheet.Setup setup) {
    Sheet.answers(what, want, setup, Sheet::totals);
  }

  private static void advance() {
    Sheet.sentence(
        27,
        "Lets ticks pass.",
        () -> {
          for (int ticks : new int[] {1, 2, 29, 30}) {
            Sheet.Setup passed = Sheet.with(Sheet.flying(0), s -> s.advance(ticks));
            Sheet.answers("now", ticks, passed, DroneLightShow::now);
            shows("the battery", "0:" + (100 - ticks) + "F", passed);
          }
          Sheet.answers("without drones", 0, Sheet.drones(), s -> s.advance(30));
        });
    Sheet.sentence(
        27,
        "`ticks`: the number of ticks, 1 to 30",
        () -> {
          Sheet.range(1, 30, n -> 0, Sheet.ARGUMENT, Sheet.flying(5), DroneLightShow::advance);
          for (int ticks : new int[] {1, 2, 29, 30}) {
            Sheet.Setup passed = Sheet.with(Sheet.drones(), s -> s.advance(ticks));
            Sheet.answers("now after advance(" + ticks + ")", ticks, passed, DroneLightShow::now);
          }
        });
    Sheet.sentence(
        27,
        "Returns the number of moves in these ticks.",
        () -> {
          Sheet.Setup far = sent(Sheet.flying(0), 63);
          for (int ticks : new int[] {1, 2, 13, 14}) {
            Sheet.answers("advance(" + ticks + ")", ticks, far, s -> s.advance(ticks));
          }
          Sheet.answers("beyond the target", 14, far, s -> s.advance(15));
          Sheet.answers("no more moves", 0, Sheet.after(14, far), s -> s.advance(1));
          Sheet.answers("the last of the moves", 1, Sheet.after(13, far), s -> s.advance(30));
          Sheet.answers("of two drones", 4, sent(Sheet.flying(0, 56), 2, 58), s -> s.advance(2));
          Sheet.answers("aside", 2, sent(among(Sheet.flying(0), 8), 9), s -> s.advance(30));
          Sheet.answers("not to be moved", 0, sent(among(Sheet.flying(0), 8), 16), s -> s.advance(30));
          Sheet.answers("without a target", 0, Sheet.flying(0), s -> s.advance(30));
        });
    Sheet.sentence(
        27,
        "Throws `IllegalArgumentException` if the number is not from 1 to 30",
        () -> {
          Sheet.Setup busy = sent(Sheet.flying(0, 9), 63, 62);
          Sheet.refusals(Sheet.ARGUMENT, busy, DroneLightShow::advance, 0, -1, 31, -30, 60);
          Sheet.answers("1", 2, busy, s -> s.advance(1));
          Sheet.answers("30", 23, busy, s -> s.advance(30));
        });
  }

  private static void now() {
    Sheet.sentence(
        28,
        "Returns the current time.",
        () -> {
          DroneLightShow show = new DroneLightShow();
          Sheet.due("at first", show.now(), 0);
          show.advance(1);
          Sheet.due("after a tick", show.now(), 1);
          Sheet.due("undo", show.undo(), 0);
          Sheet.due("after undo", show.now(), 0);
          Sheet.ticks(show, 999);
          Sheet.due("at the last time of cues", show.now(), 999);
          show.advance(1);
          Sheet.due("beyond it", show.now(), 1000);
        });
    Sheet.sentence(
        28,
        "Returns the number of ticks that have passed.",
        () -> {
          DroneLightShow show = new DroneLightShow();
          int passed = 0;
          for (int ticks : new int[] {1, 30, 2, 29}) {
            show.advance(ticks);
            passed += ticks;
            Sheet.due("now", show.now(), passed);
          }
          Sheet.next("a refused advance", show, "throws." + Sheet.ARGUMENT, s -> s.advance(31));
          Sheet.due("now after it", show.now(), 62);
          show.addDrone(0);
          show.batteryAfter(0, 30);
          Sheet.due("now after batteryAfter", show.now(), 62);
          Sheet.runText(show, "tick 30;tick 001");
          Sheet.due("now after run", show.now(), 93);
        });
  }

  private static void order() {
    Sheet.sentence(
        27,
        "In one tick, the following steps are carried out in this order.",
        () -> {
          Sheet.Setup last = Sheet.after(4, Sheet.padded(Sheet.flyingWith(0, 6), 3));
          shows("moved, empty, down and charged in one tick", "3:5G", last);
          counts("and not forced", "3 moved, 0 blocked, 1 emergencies, 0 forced", last);
          Sheet.Setup early = reserved(Sheet.padded(Sheet.flyingWith(0, 31), 63), 30);
          shows("loss before the emergency", "0:30FE>63", Sheet.after(1, early));
          Sheet.Setup leaving = sent(reserved(Sheet.padded(Sheet.flyingWith(0, 32), 63), 30), 1);
          shows("the move before the emergency", "1:30FE>63", Sheet.after(1, leaving));
          shows("and the move after it", "9:28FE>63", Sheet.after(2, leaving));
          shows("the emergency before the landing and the charge", "0:35G", Sheet.emergency(0, 0));
          counts("one of each", "0 moved, 0 blocked, 1 emergencies, 0 forced", Sheet.emergency(0, 0));
          Sheet.Setup cued = Sheet.with(Sheet.flyingWith(0, 31), s -> s.cueColour(0, s.now() + 1, 3));
          Sheet.answers("the cue in the tick of a forced landing", 3, Sheet.after(1, reserved(cued, 30)), s -> s.colour(0));
        });
  }

  private static void stepOne() {
    Sheet.sentence(
        27,
        "The time increases by 1.",
        () -> {
          DroneLightShow show = new DroneLightShow();
          for (int time = 1; time <= 40; time++) {
            show.advance(1);
            Sheet.due("now", show.now(), time);
          }
        });
    Sheet.sentence(
        34,
        "Each cue with this time sets the colour of its drone, in the order in which the cues were added, and is no longer pending.",
        () -> {
          DroneLightShow show = Sheet.drones(0, 1).make();
          int[][] cues = {{0, 3, 6}, {0, 2, 5}, {0, 2, 4}, {1, 2, 7}, {0, 4, 0}, {0, 3, 1}};
          for (int[] cue : cues) {
            show.cueColour(cue[0], cue[1], cue[2]);
          }
          String seen = "";
          for (int time = 1; time <= 5; time++) {
            show.advance(1);
            seen += time + ": " + show.colour(0) + show.colour(1) + " " + show.cueCount() + ", ";
          }
          Sheet.due("the colours and the cues", seen, "1: 00 6, 2: 47 3, 3: 17 1, 4: 07 0, 5: 07 0, ");
          Sheet.Setup once = Sheet.with(Sheet.drones(0), s -> s.cueColour(0, 2, 5));
          Sheet.answers("a tick before", "0 1", Sheet.after(1, once), s -> s.colour(0) + " " + s.cueCount());
          Sheet.answers("in the midst of ticks", "5 0", Sheet.after(3, once), s -> s.colour(0) + " " + s.cueCount());
        });
  }

  private static void stepTwo() {
    Sheet.sentence(
        27,
        "The flying drones are visited in ascending order of their numbers.",
        () -> {
          shows("the lower number leaves", "2:98F>2 1:98F>1", Sheet.after(1, sent(Sheet.flying(1, 0), 2, 1)));
          shows("the higher number leaves", "0:99F>1 2:98F>2", Sheet.after(1, sent(Sheet.flying(0, 1), 1, 2)));
          shows("both to one cell", "1:98F>1 2:99F>1", Sheet.after(1, sent(Sheet.flying(0, 2), 1, 1)));
          shows("the other way round", "1:98F>1 0:99F>1", Sheet.after(1, sent(Sheet.flying(2, 0), 1, 1)));
          shows("no change of places", "0:99F>1 1:99F>0", Sheet.after(1, sent(Sheet.flying(0, 1), 1, 0)));
          Sheet.Setup queue = sent(Sheet.flying(6, 5, 4, 3, 2, 1, 0), 7, 6, 5, 4, 3, 2, 1);
          Sheet.answers("a queue that moves", 7, queue, s -> s.advance(1));
          Sheet.Setup jam = sent(Sheet.flying(0, 1, 2, 3, 4, 5, 6), 1, 2, 3, 4, 5, 6, 7);
          Sheet.answers("a queue whose end moves", 1, jam, s -> s.advance(1));
          Sheet.Setup mixed = sent(among(Sheet.flying(0), 40), 1);
          shows("grounded drones stay", "1:98F>1 40:100G", Sheet.after(1, mixed));
        });
    Sheet.sentence(
        27,
        "A drone that wants to move moves to the wanted cell if no drone is in that cell.",
        () -> {
          shows("free, down", "35:98F>43", Sheet.after(1, sent(Sheet.flying(27), 43)));
          shows("free, up", "19:98F>11", Sheet.after(1, sent(Sheet.flying(27), 11)));
          shows("free, right", "28:98F>29", Sheet.after(1, sent(Sheet.flying(27), 29)));
          shows("free, left", "26:98F>25", Sheet.after(1, sent(Sheet.flying(27), 25)));
          shows("the last move", "28:98F>28", Sheet.after(1, sent(Sheet.flying(27), 28)));
          shows("in the target", "27:99F>27", Sheet.after(1, sent(Sheet.flying(27), 27)));
          shows("into the first corner", "0:98F>0", Sheet.after(1, sent(Sheet.flying(8), 0)));
          shows("into the last corner", "63:98F>63", Sheet.after(1, sent(Sheet.flying(62), 63)));
          shows("a grounded drone in it", "27:99F>28 28:100G", Sheet.after(1, sent(among(Sheet.flying(27), 28), 28)));
          shows("a flying drone in it", "27:99F>28 28:99F", Sheet.after(1, sent(Sheet.flying(27, 28), 28)));
          shows("a drone beyond it", "28:98F>29 29:100G", Sheet.after(1, sent(among(Sheet.flying(27), 29), 29)));
        });
    Sheet.sentence(
        27,
        "Otherwise, if it wanted to move to the next row and the columns differ, too, it moves to the next column towards the target if no drone is in that cell.",
        () -> {
          shows("columns that differ by 1", "1:98F>9 8:100G", Sheet.after(1, sent(among(Sheet.flying(0), 8), 9)));
          shows("columns that differ by 7", "1:98F>15 8:100G", Sheet.after(1, sent(among(Sheet.flying(0), 8), 15)));
          shows("the same column", "0:99F>16 8:100G", Sheet.after(1, sent(among(Sheet.flying(0), 8), 16)));
          shows("to the left", "6:98F>14 15:100G", Sheet.after(1, sent(among(Sheet.flying(7), 15), 14)));
          shows("up and to the left", "62:98F>54 55:100G", Sheet.after(1, sent(among(Sheet.flying(63), 55), 54)));
          shows("up and to the right", "57:98F>49 48:100G", Sheet.after(1, sent(among(Sheet.flying(56), 48), 49)));
          shows("no way round the edge", "6:98F>8 15:100G", Sheet.after(1, sent(among(Sheet.flying(7), 15), 8)));
          shows("the wanted cell is free", "8:98F>9 1:100G", Sheet.after(1, sent(among(Sheet.flying(0), 1), 9)));
          shows(
              "a grounded drone in the next column, too",
              "0:99F>9 8:100G 1:100G",
              Sheet.after(1, sent(among(Sheet.flying(0), 8, 1), 9)));
          shows(
              "a flying drone in the next column, too",
              "0:99F>9 1:99F 8:100G",
              Sheet.after(1, sent(among(Sheet.flying(0, 1), 8), 9)));
          shows("it wanted to the next column", "0:99F>2 1:100G", Sheet.after(1, sent(among(Sheet.flying(0), 1), 2)));
          shows("the row from there", "9:96F>9 8:100G", Sheet.after(2, sent(among(Sheet.flying(0), 8), 9)));
        });
    Sheet.sentence(
        38,
        "Otherwise it cannot move, which counts as one time that a drone could not move.",
        () -> {
          Sheet.Setup column = sent(among(Sheet.flying(0), 8), 16);
          Sheet.answers("before", 0, column, DroneLightShow::blockedTotal);
          for (int ticks : new int[] {1, 2, 30}) {
            Sheet.answers("after " + ticks, ticks, Sheet.after(ticks, column), DroneLightShow::blockedTotal);
          }
          Sheet.Setup rows = sent(among(Sheet.flying(0), 1), 2);
          counts("in the row", "0 moved, 1 blocked, 0 emergencies, 0 forced", Sheet.after(1, rows));
          Sheet.Setup both = sent(among(Sheet.flying(0), 1, 8), 9);
          counts("in both", "0 moved, 1 blocked, 0 emergencies, 0 forced", Sheet.after(1, both));
          Sheet.Setup aside = sent(among(Sheet.flying(0), 8), 9);
          counts("aside", "1 moved, 0 blocked, 0 emergencies, 0 forced", Sheet.after(1, aside));
          Sheet.Setup two = sent(Sheet.flying(0, 1), 1, 0);
          counts("two drones", "0 moved, 6 blocked, 0 emergencies, 0 forced", Sheet.after(3, two));
          counts("no target", "0 moved, 0 blocked, 0 emergencies, 0 forced", Sheet.after(3, Sheet.flying(0, 1)));
          counts("in the target", "0 moved, 0 blocked, 0 emergencies, 0 forced", Sheet.after(3, sent(Sheet.flying(0), 0)));
        });
  }

  private static void stepThree() {
    Sheet.sentence(
        27,
        "Each flying drone loses 1 percent of battery, and 1 percent more if it moved in this tick, but the battery does not become less than 0.",
        () -> {
          shows("without a move", "0:99F", Sheet.after(1, Sheet.flying(0)));
          shows("with a move", "8:98F>63", Sheet.after(1, sent(Sheet.flying(0), 63)));
          shows("with a move aside", "1:98F>9 8:100G", Sheet.after(1, sent(among(Sheet.flying(0), 8), 9)));
          shows("not to be moved", "0:99F>8 8:100G", Sheet.after(1, sent(among(Sheet.flying(0), 8), 8)));
          shows("in the target", "1:97F>1", Sheet.after(2, sent(Sheet.flying(0), 1)));
          shows("grounded", "0:100G", Sheet.after(30, Sheet.drones(0)));
          Sheet.Setup odd = Sheet.padded(Sheet.flyingWith(0, 6), 4);
          shows("1 left", "2:1FE>4", Sheet.after(3, odd));
          shows("1 left, and a move", "3:0G", Sheet.after(4, odd));
          Sheet.Setup even = reserved(Sheet.padded(Sheet.flyingWith(0, 7), 5), 6);
          shows("2 left", "2:2FE>5", Sheet.after(3, even));
          shows("2 left, and a move", "3:0G", Sheet.after(4, even));
          Sheet.Setup stuck = Sheet.padded(among(Sheet.flyingWith(0, 6), 1, 8), 63);
          shows("1 left between two drones", "0:1FE>63 1:100G 8:100G", Sheet.after(5, stuck));
          shows("1 left, and no move", "0:0G 1:100G 8:100G", Sheet.after(6, stuck));
          shows("0 left, grounded", "0:0G 1:100G 8:100G", Sheet.after(36, stuck));
          Sheet.Setup charged = Sheet.padded(Sheet.flyingWith(0, 6), 3);
          shows("1 left, and a move to the pad: not -1 and 5 more", "3:5G", Sheet.after(4, charged));
        });
  }

  private static void stepFour() {
    Sheet.sentence(
        39,
        "Each flying drone that is not in an emergency and whose battery is at most the reserve gets into an emergency.",
        () -> {
          String[] want = {"0:28FE>63", "0:29FE>63", "0:30FE>63", "0:31F", "0:32F"};
          for (int battery = 29; battery <= 33; battery++) {
            Sheet.Setup at = reserved(Sheet.padded(Sheet.flyingWith(0, battery), 63), 30);
            shows("at " + battery + " before the tick", want[battery - 29], Sheet.after(1, at));
            int begun = battery <= 31 ? 1 : 0;
            Sheet.answers("emergencies", begun, Sheet.after(1, at), DroneLightShow::emergencyTotal);
          }
          Sheet.Setup moving = sent(reserved(Sheet.padded(Sheet.flyingWith(0, 32), 63), 30), 16);
          shows("at 32, and a move", "8:30FE>63", Sheet.after(1, moving));
          Sheet.Setup first = reserved(Sheet.padded(Sheet.flyingWith(0, 33), 63), 30);
          shows("at 33, and a move", "8:31F>16", Sheet.after(1, sent(first, 16)));
          Sheet.Setup grounded = reserved(Sheet.padded(Sheet.spent(10), 63), 30);
          shows("grounded below it", "0:10G", Sheet.after(5, grounded));
          Sheet.answers("no emergency", 0, Sheet.after(5, grounded), DroneLightShow::emergencyTotal);
          Sheet.Setup begun = Sheet.emergency(0, 63);
          Sheet.answers("once", 1, Sheet.after(10, begun), DroneLightShow::emergencyTotal);
          shows("a nearer pad later", "1:28FE>2", Sheet.after(1, Sheet.padded(Sheet.emergency(0, 2), 0)));
        });
    Sheet.sentence(
        39,
        "Its target becomes the nearest pad.",
        () -> {
          shows("the only one", "27:30FE>63", Sheet.emergency(27, 63));
          shows("nearer by 1", "27:30FE>29", Sheet.emergency(27, 24, 29));
          shows("the same distance", "27:30FE>25", Sheet.emergency(27, 29, 25));
          shows("its own cell", "27:35G", Sheet.emergency(27, 28, 27));
          Sheet.Setup early = reserved(Sheet.padded(Sheet.flyingWith(3, 32), 0, 7), 30);
          shows("from the cell after the move", "4:30FE>7", Sheet.after(1, sent(early, 4)));
          Sheet.Setup still = reserved(Sheet.padded(Sheet.flyingWith(3, 31), 0, 7), 30);
          shows("from the cell without a move", "3:30FE>0", Sheet.after(1, sent(still, 3)));
        });
    Sheet.sentence(
        40,
        "If there are no pads, no emergency begins; it makes a forced landing instead, which grounds it in its cell.",
        () -> {
          Sheet.Setup none = reserved(Sheet.flyingWith(9, 31), 30);
          shows("a tick before", "9:31F", none);
          shows("no pads", "9:30G", Sheet.after(1, none));
          counts("no pads", "0 moved, 0 blocked, 0 emergencies, 1 forced", Sheet.after(1, none));
          shows("one pad", "9:30FE>0", Sheet.after(1, Sheet.padded(none, 0)));
          counts("one pad", "0 moved, 0 blocked, 1 emergencies, 0 forced", Sheet.after(1, Sheet.padded(none, 0)));
          shows("above the reserve", "9:31F", Sheet.after(1, reserved(Sheet.flyingWith(9, 32), 30)));
          shows("a target is lost", "17:30G", Sheet.after(1, sent(reserved(Sheet.flyingWith(9, 32), 30), 63)));
          Sheet.answers("once", 1, Sheet.after(30, none), DroneLightShow::forcedTotal);
        });
  }

  private static void stepFive() {
    Sheet.sentence(
        27,
        "Each flying drone in an emergency whose cell is its target is grounded there.",
        () -> {
          shows("the distance 0", "0:35G", Sheet.emergency(0, 0));
          shows("the distance 1", "0:30FE>1", Sheet.emergency(0, 1));
          shows("the distance 1, a tick later", "1:33G", Sheet.after(1, Sheet.emergency(0, 1)));
          shows("the distance 2, a tick later", "1:28FE>2", Sheet.after(1, Sheet.emergency(0, 2)));
          shows("the distance 2, two ticks later", "2:31G", Sheet.after(2, Sheet.emergency(0, 2)));
          counts("never forced", "2 moved, 0 blocked, 1 emergencies, 0 forced", Sheet.after(2, Sheet.emergency(0, 2)));
          shows("in no emergency over the target", "0:99F>0", Sheet.after(1, sent(Sheet.padded(Sheet.flying(0), 0), 0)));
          shows("over another pad", "0:30FE>1", Sheet.padded(Sheet.emergency(0, 1), 0));
          shows("beside a taken pad", "0:29FE>1 1:100G", Sheet.after(1, among(Sheet.emergency(0, 1), 1)));
        });
    Sheet.sentence(
        40,
        "Each other flying drone whose battery is 0 makes a forced landing in its cell.",
        () -> {
          Sheet.Setup stuck = Sheet.padded(among(Sheet.flyingWith(0, 6), 1, 8), 63);
          shows("1 left", "0:1FE>63 1:100G 8:100G", Sheet.after(5, stuck));
          Sheet.answers("1 left", 0, Sheet.after(5, stuck), DroneLightShow::forcedTotal);
          shows("0 left", "0:0G 1:100G 8:100G", Sheet.after(6, stuck));
          Sheet.answers("0 left", 1, Sheet.after(6, stuck), DroneLightShow::forcedTotal);
          Sheet.answers("0 left for long", 1, Sheet.after(30, stuck), DroneLightShow::forcedTotal);
          Sheet.Setup landed = Sheet.after(4, Sheet.padded(Sheet.flyingWith(0, 6), 3));
          counts("0 left in its target", "3 moved, 0 blocked, 1 emergencies, 0 forced", landed);
          Sheet.Setup missed = Sheet.after(4, Sheet.padded(Sheet.flyingWith(0, 6), 4));
          counts("0 left beside its target", "3 moved, 0 blocked, 1 emergencies, 1 forced", missed);
          Sheet.Setup other = Sheet.padded(Sheet.after(1, Sheet.padded(Sheet.flyingWith(0, 6), 5)), 3);
          shows("0 left on another pad", "3:5G", Sheet.after(3, other));
          Sheet.answers("forced there", 1, Sheet.after(3, other), DroneLightShow::forcedTotal);
        });
  }

  private static void stepSix() {
    Sheet.sentence(
        27,
        "The battery of each drone that is grounded on a pad increases by 5 percent, but not above 100.",
        () -> {
          int[][] rows = {{93, 98}, {94, 99}, {95, 100}, {96, 100}, {99, 100}, {30, 35}};
          for (int[] row : rows) {
            Sheet.Setup landed = Sheet.with(Sheet.padded(Sheet.flyingWith(0, row[0]), 0), s -> s.land(0));
            shows("before the tick", "0:" + row[0] + "G", landed);
            shows("after the tick", "0:" + row[1] + "G", Sheet.after(1, landed));
          }
          shows("a full one", "0:100G", Sheet.after(1, Sheet.padded(Sheet.drones(0), 0)));
          shows("an empty one", "3:5G", Sheet.after(4, Sheet.padded(Sheet.flyingWith(0, 6), 3)));
          shows("an empty one, a tick later", "3:10G", Sheet.after(5, Sheet.padded(Sheet.flyingWith(0, 6), 3)));
          shows("beside a pad", "0:20G", Sheet.after(1, Sheet.padded(Sheet.spent(20), 1, 8)));
          shows("flying over a pad", "0:99F", Sheet.after(1, Sheet.padded(Sheet.flying(0), 0)));
          shows("forced down, a pad later", "0:25G", Sheet.after(1, Sheet.padded(Sheet.spent(20), 0)));
          Sheet.Setup two = Sheet.with(Sheet.padded(Sheet.after(9, Sheet.flying(0, 1)), 0, 1), TickSentences::landBoth);
          shows("two of them", "0:96G 1:96G", Sheet.after(1, two));
        });
  }

  private static void landBoth(DroneLightShow show) {
    show.land(0);
    show.land(1);
  }

  private static void moves() {
    Sheet.sentence(
        29,
        "A drone with a target in another cell wants to move by one cell: to the next row towards the target if the rows differ, and otherwise to the next column towards the target.",
        () -> {
          for (int from : new int[] {0, 7, 27, 36, 56, 63}) {
            DroneLightShow show = Sheet.flying(from).make();
            for (int to = 0; to < 64; to++) {
              int rows = Integer.compare(to / 8, from / 8);
              int columns = Integer.compare(to % 8, from % 8);
              show.sendTo(0, to);
              String want = String.valueOf(rows != 0 ? from + 8 * rows : from + columns);
              Sheet.next(
                  "from " + from + " to " + to,
                  show,
                  from == to ? "throws." + Sheet.MISSING : want,
                  s -> s.wantedCell(0));
            }
          }
        });
  }

  private static void wantedCell() {
    Sheet.sentence(
        29,
        "Returns the cell to which a drone wants to move next, whether it is free or not.",
        () -> {
          Sheet.answers("free", 8, sent(Sheet.flying(0), 16), s -> s.wantedCell(0));
          Sheet.answers("taken", 8, sent(among(Sheet.flying(0), 8), 16), s -> s.wantedCell(0));
          Sheet.answers("taken, with a way aside", 8, sent(among(Sheet.flying(0), 8), 17), s -> s.wantedCell(0));
          Sheet.answers("taken by a flying one", 1, sent(Sheet.flying(0, 1), 2), s -> s.wantedCell(0));
          Sheet.answers("in an emergency", 8, Sheet.emergency(0, 63), s -> s.wantedCell(0));
        });
    Sheet.sentence(
        29,
        "`drone`: the drone",
        () -> {
          Sheet.Setup two = sent(Sheet.flying(0, 63), 63, 0);
          Sheet.answers("the first", 8, two, s -> s.wantedCell(0));
          Sheet.answers("the second", 55, two, s -> s.wantedCell(1));
        });
    Sheet.sentence(
        29,
        "Returns the cell.",
        () -> {
          Sheet.answers("the cell 0", 0, sent(Sheet.flying(1), 0), s -> s.wantedCell(0));
          Sheet.answers("the cell 63", 63, sent(Sheet.flying(55), 63), s -> s.wantedCell(0));
          Sheet.answers("not round the edge", 15, sent(Sheet.flying(7), 8), s -> s.wantedCell(0));
        });
    Sheet.sentence(
        29,
        "Throws `NoSuchElementException` if the drone is not flying, has no target, or is in the cell of its target",
        () -> {
          Sheet.refused("grounded", Sheet.MISSING, Sheet.drones(5), s -> s.wantedCell(0));
          Sheet.refused("without a target", Sheet.MISSING, Sheet.flying(5), s -> s.wantedCell(0));
          Sheet.refused("in the target", Sheet.MISSING, sent(Sheet.flying(5), 5), s -> s.wantedCell(0));
          Sheet.answers("a cell before it", 6, sent(Sheet.flying(5), 6), s -> s.wantedCell(0));
          Sheet.answers("a cell behind it", 4, sent(Sheet.flying(5), 4), s -> s.wantedCell(0));
          Sheet.refused("arrived", Sheet.MISSING, Sheet.after(1, sent(Sheet.flying(5), 6)), s -> s.wantedCell(0));
          Sheet.Setup landed = Sheet.with(Sheet.padded(sent(Sheet.flying(5), 6), 5), s -> s.land(0));
          Sheet.refused("landed", Sheet.MISSING, landed, s -> s.wantedCell(0));
        });
  }

  private static void conflicts() {
    conflictCount(
        30,
        "Returns the number of pairs of drones that want to move to the same cell next, found by comparing all pairs.",
        DroneLightShow::conflictCount);
    conflictCount(
        31,
        "Returns the same number as conflictCount(), found by counting the drones by the cell to which they want to move.",
        DroneLightShow::conflictCountByCell);
  }

  private static void conflictCount(int promise, String words, Sheet.Call call) {
    Sheet.sentence(
        promise,
        words,
        () -> {
          Sheet.answers("without drones", 0, Sheet.drones(), call);
          Sheet.answers("without targets", 0, Sheet.flying(0, 1), call);
          Sheet.answers("one drone", 0, sent(Sheet.flying(1), 0), call);
          Sheet.answers("two in their targets", 0, sent(Sheet.flying(0, 1), 0, 1), call);
          Sheet.answers("one target, two next cells", 0, sent(Sheet.flying(0, 18), 9, 9), call);
          Sheet.answers("two targets, one next cell", 1, sent(Sheet.flying(0, 16), 63, 0), call);
          Sheet.answers("each into the other's cell", 0, sent(Sheet.flying(0, 1), 1, 0), call);
          Sheet.answers("a cell with a drone in it", 1, sent(among(Sheet.flying(0, 2), 1), 1, 1), call);
          Sheet.answers("the cell 0", 1, sent(Sheet.flying(1, 8), 0, 0), call);
          Sheet.answers("the cell 63", 1, sent(Sheet.flying(62, 55), 63, 63), call);
          Sheet.answers("twice the same", 1, Sheet.with(sent(Sheet.flying(1, 8), 0, 0), s -> call.on(s)), call);
          Sheet.Setup left = Sheet.with(Sheet.padded(sent(Sheet.flying(1, 8), 0, 0), 1), s -> s.land(0));
          Sheet.answers("one of them landed", 0, left, call);
        });
    Sheet.sentence(
        promise,
        "Returns the number of pairs.",
        () -> {
          int[] pairs = {0, 1, 3, 6};
          int[] from = {26, 28, 19, 35};
          for (int drones = 1; drones <= 4; drones++) {
            int[] cells = java.util.Arrays.copyOf(from, drones);
            int[] targets = new int[drones];
            java.util.Arrays.fill(targets, 27);
            Sheet.answers(drones + " drones", pairs[drones - 1], sent(Sheet.flying(cells), targets), call);
          }
          Sheet.Setup two = sent(Sheet.flying(1, 8, 62, 55, 30), 0, 0, 63, 63, 31);
          Sheet.answers("two pairs in two cells", 2, two, call);
          int[] ten = {1, 8, 6, 15, 48, 57, 55, 62, 26, 28};
          Sheet.answers(
              "five pairs", 5, sent(Sheet.flying(ten), 0, 0, 7, 7, 56, 56, 63, 63, 27, 27), call);
        });
  }

  private static String ranking(DroneLightShow show) {
    StringBuilder text = new StringBuilder();
    for (int rank = 0; rank < show.droneCount(); rank++) {
      text.append(show.droneAtRank(rank));
    }
    return text.toString();
  }

  private static void droneAtRank() {
    Sheet.sentence(
        32,
        "Returns the drone at a rank: the drone with less battery first; of drones with the same battery the flying one first; then the one with the lower number first.",
        () -> {
          Sheet.answers("all alike", "0123456789", Sheet.drones(Sheet.row(10)), TickSentences::ranking);
          Sheet.answers("all alike, flying", "0123456789", Sheet.flying(Sheet.row(10)), TickSentences::ranking);
          Sheet.Setup last = Sheet.with(Sheet.drones(Sheet.row(10)), s -> s.takeOff(9));
          Sheet.answers("the last one is flying", "9012345678", last, TickSentences::ranking);
          Sheet.answers("the last one has 1 less", "9012345678", Sheet.after(1, last), TickSentences::ranking);
          Sheet.Setup two = Sheet.with(last, s -> s.takeOff(4));
          Sheet.answers("two are flying", "4901235678", two, TickSentences::ranking);
          Sheet.Setup grounded = Sheet.with(Sheet.padded(Sheet.after(2, Sheet.flying(0, 1)), 0), s -> s.land(0));
          Sheet.answers("the same battery, grounded and flying", "10", grounded, TickSentences::ranking);
          Sheet.answers("1 less, grounded", "01", sentBack(), TickSentences::ranking);
        });
    Sheet.sentence(
        32,
        "`rank`: the rank, from 0",
        () -> {
          Sheet.Setup ten = Sheet.with(Sheet.drones(Sheet.row(10)), s -> s.takeOff(9));
          Sheet.range(0, 9, n -> n == 0 ? 9 : n - 1, Sheet.MISSING, ten, DroneLightShow::droneAtRank);
        });
    Sheet.sentence(
        32,
        "Returns the drone.",
        () -> {
          Sheet.answers("of one", 0, Sheet.drones(63), s -> s.droneAtRank(0));
          Sheet.Setup two = Sheet.after(1, Sheet.with(Sheet.drones(63, 62), s -> s.takeOff(1)));
          Sheet.answers("the first of two", 1, two, s -> s.droneAtRank(0));
          Sheet.answers("the second of two", 0, two, s -> s.droneAtRank(1));
        });
    Sheet.sentence(
        32,
        "Throws `NoSuchElementException` if there is no such rank",
        () -> {
          Sheet.refusals(Sheet.MISSING, Sheet.drones(), DroneLightShow::droneAtRank, -1, 0, 1);
          for (int count : new int[] {1, 2, 9, 10}) {
            Sheet.Setup setup = Sheet.drones(Sheet.row(count));
            Sheet.answers("the last rank", count - 1, setup, s -> s.droneAtRank(count - 1));
            Sheet.refusals(Sheet.MISSING, setup, DroneLightShow::droneAtRank, -1, count, count + 1, Sheet.MIN, Sheet.MAX);
          }
        });
  }

  /** The drone 0 is grounded with the battery 97, the drone 1 flies with 98. */
  private static Sheet.Setup sentBack() {
    return Sheet.with(
        Sheet.padded(Sheet.after(1, Sheet.flying(0, 20)), 1),
        show -> {
          show.sendTo(0, 1);
          show.advance(1);
          show.land(0);
        });
  }

  private static void batteryAfter() {
    Sheet.sentence(
        33,
        "Returns the battery that a drone would have after a number of ticks, found by letting them pass for all drones on a copy.",
        () -> {
          Sheet.Setup[] shows = {
            sent(Sheet.flying(0, 9, 10), 63, 0, 9),
            sent(among(Sheet.flying(0, 2), 1), 5, 0),
            Sheet.padded(Sheet.flyingWith(0, 20), 4),
            Sheet.padded(Sheet.flyingWith(0, 6), 3),
            Sheet.padded(Sheet.flyingWith(0, 6), 4),
            Sheet.flyingWith(0, 20),
            Sheet.with(Sheet.padded(Sheet.flyingWith(0, 60), 0), s -> s.land(0)),
          };
          for (int index = 0; index < shows.length; index++) {
            Sheet.Setup setup = shows[index];
            for (int ticks = 0; ticks <= 30; ticks++) {
              int count = ticks;
              for (int drone = 0; drone < setup.make().droneCount(); drone++) {
                int number = drone;
                int want = Sheet.after(ticks, setup).make().battery(drone);
                Sheet.answers("show " + index, want, setup, s -> s.batteryAfter(number, count));
              }
            }
            Sheet.Setup asked = Sheet.with(setup, s -> s.batteryAfter(0, 30));
            Sheet.due("the show afterwards", Sheet.view(asked.make()), Sheet.view(setup.make()));
            String want = Sheet.outcome(setup.make(), DroneLightShow::undo);
            Sheet.answers("the changes afterwards", want, asked, DroneLightShow::undo);
          }
        });
    Sheet.sentence(
        33,
        "`drone`: the drone",
        () -> {
          Sheet.Setup three = sent(among(Sheet.flying(0, 56), 30), 5);
          int[] want = {94, 97, 100};
          for (int drone = 0; drone < 3; drone++) {
            int number = drone;
            Sheet.answers("the drone " + drone, want[drone], three, s -> s.batteryAfter(number, 3));
          }
        });
    Sheet.sentence(
        33,
        "`ticks`: the number of ticks, 0 to 30",
        () ->
            Sheet.range(
                0, 30, n -> 100 - n, Sheet.ARGUMENT, Sheet.flying(5), (s, n) -> s.batteryAfter(0, n)));
    Sheet.sentence(
        33,
        "Returns the battery in percent.",
        () -> {
          Sheet.answers("a full one", 100, Sheet.drones(0), s -> s.batteryAfter(0, 30));
          Sheet.Setup odd = Sheet.padded(Sheet.flyingWith(0, 6), 4);
          int[] want = {6, 5, 3, 1, 0, 0};
          for (int ticks = 0; ticks < want.length; ticks++) {
            int count = ticks;
            Sheet.answers("the end", want[ticks], odd, s -> s.batteryAfter(0, count));
          }
          Sheet.Setup charged = Sheet.with(Sheet.padded(Sheet.flyingWith(0, 94), 0), s -> s.land(0));
          Sheet.answers("charged", 99, charged, s -> s.batteryAfter(0, 1));
          Sheet.answers("charged up", 100, charged, s -> s.batteryAfter(0, 2));
        });
    Sheet.sentence(
        33,
        "Throws `IllegalArgumentException` if the number is not from 0 to 30",
        () -> {
          Sheet.Setup busy = sent(Sheet.flying(0, 9), 63, 62);
          Sheet.refusals(Sheet.ARGUMENT, busy, (s, n) -> s.batteryAfter(1, n), -1, 31, -30, 60);
          Sheet.answers("0", 100, busy, s -> s.batteryAfter(1, 0));
          Sheet.answers("30", 59, busy, s -> s.batteryAfter(1, 30));
        });
  }
}
