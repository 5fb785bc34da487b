import java.util.ArrayList;
import java.util.List;
import java.util.function.IntFunction;

/** What the tests of the sentences share: their record, and the twins that show a refused call. */
final class Sheet {
  static final String INDEX = "IndexOutOfBoundsException";
  static final String ARGUMENT = "IllegalArgumentException";
  static final String STATE = "IllegalStateException";
  static final String UNSUPPORTED = "UnsupportedOperationException";
  static final String MISSING = "NoSuchElementException";
  static final String ARITHMETIC = "ArithmeticException";

  static final int MIN = Integer.MIN_VALUE;
  static final int MAX = Integer.MAX_VALUE;

  /** Makes a new show in a certain state, the same at every call. */
  interface Setup {
    DroneLightShow make();
  }

  interface Step {
    void on(DroneLightShow show);
  }

  interface Call {
    Object on(DroneLightShow show);
  }

  interface NumberedCall {
    Object on(DroneLightShow show, int number);
  }

  /** A sentence of the document that a test names. */
  record Named(int promise, String words) {}

  static final List<Named> NAMED = new ArrayList<>();
  private static Named current;
  private static int checks = 0;
  private static int wrong = 0;

  private Sheet() {}

  static int wrong() {
    return wrong;
  }

  static String summary() {
    return NAMED.size() + " sentences, " + checks + " checks, " + wrong + " wrong";
  }

  // ---- tests and checks

  /** Runs the test of a sentence; what it throws itself counts as wrong, and the rest goes on. */
  static void sentence(int promise, String words, Runnable test) {
    current = new Named(promise, words);
    NAMED.add(current);
    try {
      test.run();
    } catch (RuntimeException e) {
      complain("the test itself ended with " + e);
    }
  }

  private static void complain(String what) {
    wrong++;
    System.out.println("promise " + current.promise() + ", \"" + current.words() + "\": " + what);
  }

  static void due(String what, Object got, Object want) {
    checks++;
    if (!got.equals(want)) {
      complain(what + " answered " + got + ", due is " + want);
    }
  }

  static String outcome(DroneLightShow show, Call call) {
    try {
      return String.valueOf(call.on(show));
    } catch (RuntimeException e) {
      return "throws." + e.getClass().getSimpleName();
    }
  }

  /** A call on a show that goes on, whose answer or exception (throws. before it) is due. */
  static void next(String what, DroneLightShow show, Object want, Call call) {
    due(what, outcome(show, call), String.valueOf(want));
  }

  /** A call that is answered on a new show. */
  static void answers(String what, Object want, Setup setup, Call call) {
    next(what, setup.make(), want, call);
  }

  /**
   * A call that throws on a new show and changes nothing of it: not the state, the changes to be
   * undone, the snapshot, the line, the command text, the error position or the failed command.
   */
  static void refused(String what, String exception, Setup setup, Call call) {
    refusedAsItIs(what, exception, busy(setup), call);
  }

  /** The same, without a line, a text, an error position and so on made before the call. */
  static void refusedAsItIs(String what, String exception, Setup setup, Call call) {
    answers(what, "throws." + exception, setup, call);
    for (Probe probe : Probe.values()) {
      DroneLightShow touched = setup.make();
      outcome(touched, call);
      String want = probe.look(setup.make());
      due("after " + what + ", which is refused, " + probe, probe.look(touched), want);
    }
  }

  /**
   * A run of a text that throws: the place becomes the error position or the failed command, the
   * text becomes empty, and all else stays as in a show that was never asked to run it.
   */
  static void refusedRun(String text, String exception, int place, Setup setup) {
    String what = "run of \"" + text + "\"";
    Setup ready = marked(setup);
    Setup done = with(ready, show -> outcome(show, s -> runText(s, text)));
    answers(what, "throws." + exception, ready, s -> runText(s, text));
    for (Probe probe : Probe.values()) {
      if (probe != Probe.RESERVE_LINE_AND_TEXT) {
        due("after " + what + ", " + probe, probe.look(done.make()), probe.look(ready.make()));
      }
    }
    DroneLightShow show = done.make();
    boolean form = exception.equals(ARGUMENT);
    due("the error position after " + what, show.errorPosition(), form ? place : 7);
    due("the failed command after " + what, show.failedCommand(), form ? 2 : place);
    due("the length of the text after " + what, show.append('a'), 1);
    due("the reserve after " + what, show.setReserve(10), ready.make().setReserve(10));
    due("the line after " + what, lineNow(show), lineNow(ready.make()));
  }

  /** Both shows are alike in all that calls can tell, if asked for it, in the changes to be undone, too. */
  static void alike(String what, Setup got, Setup want, boolean undo) {
    for (Probe probe : Probe.values()) {
      if (undo || probe != Probe.UNDO && probe != Probe.RUN_OF_THE_TEXT) {
        due(what + ", " + probe, probe.look(got.make()), probe.look(want.make()));
      }
    }
  }

  /** The numbers from least to most are answered, those beside them are refused. */
  static void range(
      int least,
      int most,
      IntFunction<Object> want,
      String exception,
      Setup setup,
      NumberedCall call) {
    for (int number : new int[] {least, least + 1, most - 1, most}) {
      answers("the call with " + number, want.apply(number), setup, s -> call.on(s, number));
    }
    refusals(exception, setup, call, least - 1, most + 1, MIN, MAX);
  }

  static void refusals(String exception, Setup setup, NumberedCall call, int... numbers) {
    for (int number : numbers) {
      refused("the call with " + number, exception, setup, s -> call.on(s, number));
    }
  }

  /** Of so many drones, made ready for the call, the first and the last one are there. */
  static void thereAreDrones(IntFunction<Setup> ready, NumberedCall call) {
    refusals(INDEX, DroneLightShow::new, call, -1, 0, 1);
    for (int count : new int[] {1, 2, 9, 10}) {
      Setup setup = ready.apply(count);
      for (int drone : new int[] {0, count - 1}) {
        String got = outcome(setup.make(), s -> call.on(s, drone));
        due("drone " + drone + " of " + count + " is refused", got.startsWith("throws."), false);
      }
      refusals(INDEX, setup, call, -1, count, count + 1, MIN, MAX);
    }
  }

  // ---- shows

  static Setup with(Setup setup, Step step) {
    return () -> {
      DroneLightShow show = setup.make();
      step.on(show);
      return show;
    };
  }

  static Setup drones(int... cells) {
    return () -> {
      DroneLightShow show = new DroneLightShow();
      for (int cell : cells) {
        show.addDrone(cell);
      }
      return show;
    };
  }

  static Setup flying(int... cells) {
    return () -> {
      DroneLightShow show = drones(cells).make();
      for (int drone = 0; drone < cells.length; drone++) {
        show.takeOff(drone);
      }
      return show;
    };
  }

  /** The cells 0, 1, 2 and so on. */
  static int[] row(int count) {
    int[] cells = new int[count];
    for (int cell = 0; cell < count; cell++) {
      cells[cell] = cell;
    }
    return cells;
  }

  /** A flying drone in the cell with so much battery, in a show without pads. */
  static Setup flyingWith(int cell, int battery) {
    return with(
        flying(cell),
        show -> {
          show.setReserve(5);
          ticks(show, 100 - battery);
        });
  }

  /** A drone in the cell 0, grounded beside all pads with a battery from 5 to 30, the reserve. */
  static Setup spent(int battery) {
    return with(
        flying(0),
        show -> {
          show.setReserve(battery);
          ticks(show, 100 - battery);
        });
  }

  /** A drone in the cell, with the battery 30, in an emergency that has just begun. */
  static Setup emergency(int cell, int... pads) {
    return after(70, with(padded(flying(cell), pads), show -> show.setReserve(30)));
  }

  static void ticks(DroneLightShow show, int count) {
    for (int left = count; left > 0; left -= 30) {
      show.advance(Math.min(left, 30));
    }
  }

  static void type(DroneLightShow show, String text) {
    for (int index = 0; index < text.length(); index++) {
      show.append(text.charAt(index));
    }
  }

  static int runText(DroneLightShow show, String text) {
    type(show, text);
    return show.run();
  }

  static Setup typed(String text) {
    return with(DroneLightShow::new, show -> type(show, text));
  }

  static Setup padded(Setup setup, int... pads) {
    return with(
        setup,
        show -> {
          for (int pad : pads) {
            show.addPad(pad);
          }
        });
  }

  static Setup after(int ticks, Setup setup) {
    return with(setup, show -> ticks(show, ticks));
  }

  /** Gives a show a line, an error position, a failed command and a snapshot. */
  private static Setup marked(Setup setup) {
    return with(
        setup,
        show -> {
          show.describeRow(7);
          outcome(show, s -> runText(s, "clear 3x"));
          outcome(show, s -> runText(s, "clear 3;clear 3;clear 9"));
          show.save();
        });
  }

  private static Setup busy(Setup setup) {
    return with(marked(setup), show -> type(show, "clear 3"));
  }

  // ---- what can be seen

  static int distance(int from, int to) {
    return Math.abs(from / 8 - to / 8) + Math.abs(from % 8 - to % 8);
  }

  static String line(DroneLightShow show, int row) {
    StringBuilder text = new StringBuilder();
    int length = show.describeRow(row);
    for (int index = 0; index < length; index++) {
      text.append(show.lineAt(index));
    }
    return text.toString();
  }

  /** The line as it is, or the exceptions that its indices meet. */
  static String lineNow(DroneLightShow show) {
    StringBuilder text = new StringBuilder();
    for (int index = -1; index <= 8; index++) {
      int place = index;
      text.append(outcome(show, s -> s.lineAt(place))).append(' ');
    }
    return text.toString();
  }

  /** Cell, battery, F or G, E in an emergency, target: of each drone. */
  static String fleet(DroneLightShow show) {
    StringBuilder text = new StringBuilder();
    for (int number = 0; number < show.droneCount(); number++) {
      text.append(number == 0 ? "" : " ").append(drone(show, number));
    }
    return text.toString();
  }

  static String drone(DroneLightShow show, int number) {
    StringBuilder text = new StringBuilder();
    text.append(show.cellOf(number)).append(':').append(show.battery(number));
    text.append(show.isFlying(number) ? "F" : "G");
    text.append(show.isInEmergency(number) ? "E" : "");
    String target = outcome(show, s -> s.target(number));
    return text.append(target.startsWith("throws.") ? "" : ">" + target).toString();
  }

  static String totals(DroneLightShow show) {
    return show.movedTotal() + " moved, " + show.blockedTotal() + " blocked, "
        + show.emergencyTotal() + " emergencies, " + show.forcedTotal() + " forced";
  }

  static String masks(DroneLightShow show) {
    StringBuilder text = new StringBuilder();
    for (int formation = 0; formation < 4; formation++) {
      text.append(' ').append(show.formationMask(formation));
    }
    return text.toString();
  }

  /** All of the state that can be seen without a change; the pads by one call for each cell. */
  static String view(DroneLightShow show) {
    StringBuilder text = new StringBuilder(brief(show));
    for (int cell = 0; cell < 64; cell++) {
      text.append(show.isPad(cell) ? " pad " + cell : "");
    }
    for (int number = 0; number < show.droneCount(); number++) {
      int drone = number;
      text.append(" colour ").append(show.colour(drone));
      text.append(" rank ").append(show.droneAtRank(drone));
      text.append(" wants ").append(outcome(show, s -> s.wantedCell(drone)));
      text.append(" near ").append(outcome(show, s -> s.nearestPad(drone)));
    }
    text.append(" next cue ").append(outcome(show, DroneLightShow::nextCueTime));
    text.append(" conflicts ").append(show.conflictCount());
    text.append(" mean ").append(outcome(show, DroneLightShow::meanDistance));
    return text.append(show.isConsistent() ? " consistent" : "").toString();
  }

  /** What fits eight times into the calls of one show. */
  static String brief(DroneLightShow show) {
    return "time " + show.now() + ", " + fleet(show) + ", " + totals(show) + masks(show)
        + " cues " + show.cueCount();
  }

  /** The ways to look at a show; each needs one of its own, since most of them change it. */
  private enum Probe {
    STATE {
      @Override
      String look(DroneLightShow show) {
        return view(show);
      }
    },
    RESERVE_LINE_AND_TEXT {
      @Override
      String look(DroneLightShow show) {
        StringBuilder text = new StringBuilder(lineNow(show));
        text.append(outcome(show, DroneLightShow::errorPosition)).append(' ');
        text.append(outcome(show, DroneLightShow::failedCommand)).append(' ');
        text.append(outcome(show, s -> s.append('~'))).append(' ');
        text.append(outcome(show, DroneLightShow::run)).append(' ');
        text.append(outcome(show, DroneLightShow::errorPosition)).append(' ');
        return text.append(show.setReserve(10)).toString();
      }
    },
    RUN_OF_THE_TEXT {
      @Override
      String look(DroneLightShow show) {
        return outcome(show, DroneLightShow::run) + " " + outcome(show, DroneLightShow::undo) + " "
            + view(show);
      }
    },
    TICKS_AFTER_IT {
      @Override
      String look(DroneLightShow show) {
        show.advance(30);
        return view(show);
      }
    },
    UNDO {
      @Override
      String look(DroneLightShow show) {
        StringBuilder text = new StringBuilder();
        for (int change = 0; change < 9; change++) {
          text.append(outcome(show, DroneLightShow::undo)).append(' ');
          text.append(change % 3 == 0 ? brief(show) : "").append(' ');
        }
        return text.toString();
      }
    },
    RESTORE {
      @Override
      String look(DroneLightShow show) {
        return outcome(show, DroneLightShow::restore) + " " + outcome(show, DroneLightShow::undo)
            + " " + view(show);
      }
    };

    abstract String look(DroneLightShow show);
  }
}
