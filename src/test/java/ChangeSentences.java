/** Promises 50 to 52, and of the terms: the changes and the exceptions. */
final class ChangeSentences {
  private ChangeSentences() {}

  static void all() {
    whatIsAChange();
    sameChanges();
    runIsOneChange();
    latestEight();
    whatIsLeftAlone();
    everythingElse();
    undo();
    save();
    restore();
    refusedCalls();
    firstOfSeveral();
  }

  /** Two runs: drones, pads, a formation, cues, targets, a reserve, ticks. Two changes. */
  private static DroneLightShow small() {
    DroneLightShow show = new DroneLightShow();
    Sheet.runText(show, "add 0;add 9;add 62;off 0;off 1;pad 9;form 1 20;form 1 63");
    Sheet.runText(show, "colour 0 3 5;colour 1 9 6;send 0 63;reserve 12;tick 1");
    return show;
  }

  /** All that can be full is full: 10 drones, 4 pads, 10 cells, 12 cues, 8 changes. */
  private static DroneLightShow full() {
    DroneLightShow show = new DroneLightShow();
    Sheet.runText(show, "add 0;add 1;add 2;add 3;add 4;add 5;add 6;add 7;add 8;add 9");
    for (int drone = 0; drone < 8; drone++) {
      show.takeOff(drone);
    }
    Sheet.runText(show, "pad 0;pad 9;pad 62;pad 63;send 1 40;send 2 40;tick 2");
    for (int cell = 0; cell < 10; cell++) {
      show.addToFormation(2, 6 * cell);
    }
    for (int cue = 0; cue < 12; cue++) {
      show.cueColour(cue % 10, 5 + cue, cue % 8);
    }
    return show;
  }

  private static final String CHANGES =
      "A change is a successful call of addDrone, addPad, takeOff, land, sendTo, setReserve, addToFormation, clearFormation, assign, advance, cueColour or run.";

  /** The twelve calls that are changes, each one that succeeds on the small show. */
  private static Object[][] changes() {
    return new Object[][] {
      {"addDrone", (Sheet.Call) s -> s.addDrone(5)},
      {"addPad", (Sheet.Call) s -> s.addPad(5)},
      {"takeOff", (Sheet.Call) s -> s.takeOff(2)},
      {"land", (Sheet.Call) s -> s.land(1)},
      {"sendTo", (Sheet.Call) s -> s.sendTo(1, 33)},
      {"setReserve", (Sheet.Call) s -> s.setReserve(25)},
      {"addToFormation", (Sheet.Call) s -> s.addToFormation(1, 30)},
      {"clearFormation", (Sheet.Call) s -> s.clearFormation(1)},
      {"assign", (Sheet.Call) s -> s.assign(1)},
      {"advance", (Sheet.Call) s -> s.advance(30)},
      {"cueColour", (Sheet.Call) s -> s.cueColour(2, 7, 7)},
      {"run", (Sheet.Call) s -> Sheet.runText(s, "tick 9;add 5;clear 1")},
    };
  }

  private static void whatIsAChange() {
    Sheet.sentence(
        50,
        CHANGES,
        () -> {
          Sheet.answers("the changes before", 1, ChangeSentences::small, DroneLightShow::undo);
          for (Object[] row : changes()) {
            Sheet.Call change = (Sheet.Call) row[1];
            String got = Sheet.outcome(small(), change);
            Sheet.due(row[0] + " is refused", got.startsWith("throws."), false);
            Sheet.answers("undo of " + row[0], 2, Sheet.with(ChangeSentences::small, s -> change.on(s)), DroneLightShow::undo);
          }
          for (Sheet.Call call : otherCalls()) {
            String got = Sheet.outcome(small(), call);
            Sheet.answers(
                "undo after the answer " + got,
                1,
                Sheet.with(ChangeSentences::small, s -> Sheet.outcome(s, call)),
                DroneLightShow::undo);
          }
        });
  }

  /** The calls that are no changes, and changes that are refused. */
  private static Sheet.Call[] otherCalls() {
    return new Sheet.Call[] {
      DroneLightShow::droneCount, s -> s.cellOf(0), s -> s.battery(0), s -> s.isFlying(0),
      s -> s.isInEmergency(0), s -> s.target(0), s -> s.colour(0), s -> s.droneAt(8),
      s -> s.isPad(9), s -> s.nearestPad(0), s -> s.nearestPadByRings(0), s -> s.formationMask(1),
      DroneLightShow::occupiedMask, s -> s.matchCount(1), s -> s.matchCountByScan(1),
      s -> s.coverage(1), DroneLightShow::now, s -> s.wantedCell(0), DroneLightShow::conflictCount,
      DroneLightShow::conflictCountByCell, s -> s.droneAtRank(0), s -> s.batteryAfter(0, 30),
      DroneLightShow::cueCount, DroneLightShow::nextCueTime, DroneLightShow::movedTotal,
      DroneLightShow::blockedTotal, DroneLightShow::emergencyTotal, DroneLightShow::forcedTotal,
      s -> s.append('a'), DroneLightShow::errorPosition, DroneLightShow::failedCommand,
      s -> s.describeRow(0), s -> s.lineAt(0), DroneLightShow::meanBatteryBits,
      DroneLightShow::meanDistance, DroneLightShow::isConsistent, DroneLightShow::save,
      s -> s.addDrone(9), s -> s.addPad(9), s -> s.takeOff(0), s -> s.land(0), s -> s.sendTo(2, 0),
      s -> s.setReserve(31), s -> s.addToFormation(1, 20), s -> s.clearFormation(4),
      s -> s.assign(0), s -> s.advance(31), s -> s.cueColour(0, 1, 0),
      s -> Sheet.runText(s, "tick 1;tick 31"), s -> Sheet.runText(s, "tick")
    };
  }

  private static void sameChanges() {
    Sheet.sentence(
        50,
        "A successful call is a change even if nothing differs afterwards.",
        () -> {
          Sheet.Setup start = Sheet.with(ChangeSentences::small, s -> s.assign(1));
          Sheet.Call[] calls = {
            s -> s.clearFormation(0), s -> s.setReserve(12), s -> s.sendTo(0, s.target(0)),
            s -> s.assign(1), s -> Sheet.runText(s, "clear 0"), s -> Sheet.runText(s, "reserve 12"),
          };
          for (Sheet.Call call : calls) {
            Sheet.Setup done = Sheet.with(start, s -> call.on(s));
            String before = Sheet.view(start.make());
            Sheet.due("the show after the change", Sheet.view(done.make()), before);
            Sheet.answers("undo of it", 3, done, DroneLightShow::undo);
            Sheet.due("the show after undo", Sheet.view(Sheet.with(done, DroneLightShow::undo).make()), before);
          }
        });
  }

  private static void runIsOneChange() {
    Sheet.sentence(
        50,
        "A call of run that carries out several commands is one change.",
        () -> {
          for (String text : new String[] {"tick 1", "tick 1;tick 1", "add 20;add 21;add 22;add 23;add 24;add 25;add 26"}) {
            Sheet.Setup done = Sheet.with(ChangeSentences::small, s -> Sheet.runText(s, text));
            Sheet.answers("undo of \"" + text + "\"", 2, done, DroneLightShow::undo);
            Sheet.alike("after it", Sheet.with(done, DroneLightShow::undo), ChangeSentences::small, true);
          }
          Sheet.Setup nine = Sheet.with(Sheet.drones(1), s -> Sheet.runText(s, "tick 1;tick 1;tick 1;tick 1;tick 1;tick 1;tick 1;tick 1"));
          Sheet.answers("eight commands push nothing out", 1, nine, DroneLightShow::undo);
        });
  }

  private static void latestEight() {
    Sheet.sentence(
        50,
        "The latest 8 changes can be undone, the latest one first.",
        () -> {
          for (int count : new int[] {0, 1, 7, 8, 9, 16, 17, 30}) {
            DroneLightShow show = new DroneLightShow();
            for (int change = 1; change <= count; change++) {
              show.advance(change);
            }
            int time = show.now();
            int left = Math.min(count, 8);
            for (int change = count; left > 0; change--) {
              left--;
              Sheet.due("undo of " + change + " of " + count, show.undo(), left);
              time -= change;
              Sheet.due("the time after it", show.now(), time);
            }
            Sheet.next("one undo more", show, "throws." + Sheet.STATE, DroneLightShow::undo);
            Sheet.due("the time after it", show.now(), time);
          }
          Sheet.Setup eight = Sheet.drones(Sheet.row(8));
          Sheet.answers("with 8", 7, eight, DroneLightShow::undo);
          Sheet.answers("with 9", 7, Sheet.drones(Sheet.row(9)), DroneLightShow::undo);
        });
  }

  private static void whatIsLeftAlone() {
    String words = "The command text, the error position, the failed command, and the line are neither undone nor saved.";
    Sheet.sentence(
        50,
        words,
        () -> {
          DroneLightShow show = small();
          texts(show);
          show.undo();
          show.undo();
          textsAre(show);
        });
    Sheet.sentence(
        51,
        words,
        () -> {
          DroneLightShow show = small();
          Sheet.outcome(show, s -> Sheet.runText(s, "add"));
          Sheet.outcome(show, s -> Sheet.runText(s, "clear 9"));
          show.describeRow(7);
          show.save();
          texts(show);
          show.restore();
          textsAre(show);
        });
    Sheet.sentence(
        52,
        words,
        () -> {
          DroneLightShow show = small();
          show.save();
          texts(show);
          show.restore();
          textsAre(show);
          Sheet.next("restore again", show, 3, DroneLightShow::restore);
        });
  }

  /** The error position 7, the failed command 1, the line of the row 0, the text "add". */
  private static void texts(DroneLightShow show) {
    Sheet.outcome(show, s -> Sheet.runText(s, "clear 3x"));
    Sheet.outcome(show, s -> Sheet.runText(s, "clear 3;clear 9"));
    show.describeRow(1);
    Sheet.type(show, "add");
  }

  private static void textsAre(DroneLightShow show) {
    Sheet.due("errorPosition", show.errorPosition(), 7);
    Sheet.due("failedCommand", show.failedCommand(), 1);
    StringBuilder line = new StringBuilder();
    for (int index = 0; index < 8; index++) {
      line.append(show.lineAt(index));
    }
    Sheet.due("the line", line.toString(), "01......");
    Sheet.due("append", show.append(' '), 4);
    Sheet.due("append", show.append('5'), 5);
    Sheet.due("run", show.run(), 1);
    Sheet.due("the drone that it added", show.droneAt(5) >= 0, true);
  }

  private static void everythingElse() {
    Sheet.sentence(
        50,
        "Everything else is.",
        () -> {
          for (Object[] row : changes()) {
            Sheet.Call change = (Sheet.Call) row[1];
            Sheet.Setup done = Sheet.with(ChangeSentences::small, s -> change.on(s));
            Sheet.alike("undo of " + row[0], Sheet.with(done, DroneLightShow::undo), ChangeSentences::small, true);
          }
        });
    Sheet.sentence(
        51,
        "Everything else is.",
        () -> {
          Sheet.Setup saved = Sheet.with(ChangeSentences::small, DroneLightShow::save);
          for (Object[] row : changes()) {
            Sheet.Call change = (Sheet.Call) row[1];
            Sheet.Setup back = Sheet.with(Sheet.with(saved, s -> change.on(s)), DroneLightShow::restore);
            Sheet.alike("restore after " + row[0], back, saved, false);
          }
        });
  }

  private static void undo() {
    Sheet.sentence(
        50,
        "Undoes the latest change that has not been undone.",
        () -> {
          DroneLightShow show = new DroneLightShow();
          show.advance(1);
          show.advance(2);
          show.advance(4);
          show.undo();
          Sheet.due("the third is undone", show.now(), 3);
          show.advance(8);
          show.undo();
          Sheet.due("the fourth is undone", show.now(), 3);
          show.undo();
          Sheet.due("the second is undone", show.now(), 1);
          show.undo();
          Sheet.due("the first is undone", show.now(), 0);
          Sheet.next("none is left", show, "throws." + Sheet.STATE, DroneLightShow::undo);
          show.advance(16);
          Sheet.due("undo of the fifth", show.undo(), 0);
          Sheet.due("the fifth is undone", show.now(), 0);
        });
    Sheet.sentence(
        50,
        "Returns the number of changes that can still be undone.",
        () -> {
          for (int count : new int[] {1, 2, 7, 8, 9, 10}) {
            Sheet.answers("of " + count, Math.min(count, 8) - 1, Sheet.drones(Sheet.row(count)), DroneLightShow::undo);
          }
          Sheet.Setup nine = Sheet.with(Sheet.drones(Sheet.row(9)), DroneLightShow::undo);
          Sheet.answers("a second undo", 6, nine, DroneLightShow::undo);
          Sheet.answers("a new change", 7, Sheet.with(nine, s -> s.addPad(0)), DroneLightShow::undo);
          Sheet.Setup more = Sheet.with(Sheet.with(nine, s -> s.addPad(0)), s -> s.addPad(1));
          Sheet.answers("two new changes", 7, more, DroneLightShow::undo);
        });
    Sheet.sentence(
        50,
        "Throws `IllegalStateException` if there is no change to undo",
        () -> {
          Sheet.refused("a new show", Sheet.STATE, Sheet.drones(), DroneLightShow::undo);
          Sheet.answers("one change", 0, Sheet.drones(9), DroneLightShow::undo);
          Sheet.refused("it is undone", Sheet.STATE, Sheet.with(Sheet.drones(9), DroneLightShow::undo), DroneLightShow::undo);
          Sheet.Setup ten = Sheet.with(Sheet.drones(Sheet.row(10)), ChangeSentences::undoSeven);
          Sheet.answers("the eighth undo", 0, ten, DroneLightShow::undo);
          Sheet.refused("the ninth undo", Sheet.STATE, Sheet.with(ten, DroneLightShow::undo), DroneLightShow::undo);
          Sheet.Setup saved = Sheet.with(Sheet.drones(9), DroneLightShow::save);
          Sheet.answers("after save", 0, saved, DroneLightShow::undo);
          Sheet.Setup restored = Sheet.with(saved, DroneLightShow::restore);
          Sheet.refused("after restore", Sheet.STATE, restored, DroneLightShow::undo);
        });
  }

  private static void undoSeven(DroneLightShow show) {
    for (int change = 0; change < 7; change++) {
      show.undo();
    }
  }

  private static void save() {
    Sheet.sentence(
        51,
        "Saves everything that changes can change as the snapshot, replacing an earlier snapshot.",
        () -> {
          Sheet.Setup first = Sheet.with(ChangeSentences::small, DroneLightShow::save);
          Sheet.alike("save changes nothing else", Sheet.with(first, DroneLightShow::save), first, true);
          Sheet.Setup changed = Sheet.with(first, s -> s.advance(30));
          Sheet.Setup second = Sheet.with(changed, DroneLightShow::save);
          Sheet.Setup later = Sheet.with(Sheet.with(second, s -> s.advance(30)), DroneLightShow::restore);
          Sheet.alike("the second snapshot", later, second, false);
          Sheet.Setup empty = Sheet.with(Sheet.drones(), DroneLightShow::save);
          Sheet.Setup filled = Sheet.with(empty, s -> Sheet.runText(s, "add 1;pad 1;form 0 1;reserve 5;tick 9"));
          Sheet.alike("an empty show", Sheet.with(filled, DroneLightShow::restore), empty, false);
          Sheet.Setup fullSave = Sheet.with(ChangeSentences::full, DroneLightShow::save);
          Sheet.Setup fullLater = Sheet.with(fullSave, s -> Sheet.runText(s, "tick 30;tick 30;clear 2;reserve 30"));
          Sheet.alike("a full show", Sheet.with(fullLater, DroneLightShow::restore), fullSave, false);
        });
    Sheet.sentence(
        51,
        "Returns the number of drones.",
        () -> {
          for (int count : new int[] {0, 1, 9, 10}) {
            Sheet.answers("save", count, Sheet.drones(Sheet.row(count)), DroneLightShow::save);
          }
          Sheet.Setup fewer = Sheet.with(Sheet.with(Sheet.drones(1, 2), DroneLightShow::save), DroneLightShow::undo);
          Sheet.answers("fewer than before", 1, fewer, DroneLightShow::save);
        });
  }

  private static void restore() {
    Sheet.sentence(
        52,
        "Restores the snapshot, which is kept.",
        () -> {
          DroneLightShow show = small();
          String saved = Sheet.brief(show);
          show.save();
          for (int time = 1; time <= 3; time++) {
            show.advance(30);
            show.addDrone(5);
            Sheet.due("restore", show.restore(), 3);
            Sheet.due("the show after the restore " + time, Sheet.brief(show), saved);
          }
          show.advance(1);
          show.undo();
          Sheet.due("a change after it, undone", Sheet.brief(show), saved);
          Sheet.due("restore", show.restore(), 3);
          Sheet.Setup undone = Sheet.with(Sheet.with(Sheet.drones(5), DroneLightShow::save), DroneLightShow::undo);
          Sheet.answers("undo leaves the snapshot", 1, undone, DroneLightShow::restore);
          Sheet.answers("its drone", "5:100G", Sheet.with(undone, DroneLightShow::restore), Sheet::fleet);
        });
    Sheet.sentence(
        52,
        "After the call no change can be undone.",
        () -> {
          for (int count : new int[] {0, 1, 8, 9}) {
            Sheet.Setup saved = Sheet.with(Sheet.drones(Sheet.row(count)), DroneLightShow::save);
            Sheet.Setup restored = Sheet.with(saved, DroneLightShow::restore);
            Sheet.refused("undo after " + count + " changes", Sheet.STATE, restored, DroneLightShow::undo);
            Sheet.answers("a change after it", 0, Sheet.with(restored, s -> s.addPad(1)), DroneLightShow::undo);
            Sheet.Setup nine = Sheet.with(restored, s -> Sheet.ticks(s, 270));
            Sheet.answers("nine changes after it", 7, nine, DroneLightShow::undo);
          }
        });
    Sheet.sentence(
        52,
        "Returns the number of drones.",
        () -> {
          for (int count : new int[] {0, 1, 9}) {
            Sheet.Setup saved = Sheet.with(Sheet.drones(Sheet.row(count)), DroneLightShow::save);
            Sheet.answers("the same", count, saved, DroneLightShow::restore);
            Sheet.answers("one more before", count, Sheet.with(saved, s -> s.addDrone(63)), DroneLightShow::restore);
          }
          Sheet.Setup fewer = Sheet.with(Sheet.with(Sheet.drones(1, 2), DroneLightShow::save), DroneLightShow::undo);
          Sheet.answers("one less before", 2, fewer, DroneLightShow::restore);
        });
    Sheet.sentence(
        52,
        "Throws `IllegalStateException` if there is no snapshot",
        () -> {
          Sheet.refusedAsItIs("a new show", Sheet.STATE, Sheet.drones(), DroneLightShow::restore);
          Sheet.refusedAsItIs("a small show", Sheet.STATE, ChangeSentences::small, DroneLightShow::restore);
          Sheet.refusedAsItIs("a full show", Sheet.STATE, ChangeSentences::full, DroneLightShow::restore);
          Sheet.Setup undone = Sheet.with(ChangeSentences::small, DroneLightShow::undo);
          Sheet.refusedAsItIs("after undo", Sheet.STATE, undone, DroneLightShow::restore);
          Sheet.answers("after save", 0, Sheet.with(Sheet.drones(), DroneLightShow::save), DroneLightShow::restore);
        });
  }

  // ---- exceptions

  /** A refused call on a full show for each promise that names an exception. */
  private static Object[][] refusals() {
    return new Object[][] {
      {2, Sheet.STATE, (Sheet.Call) s -> s.addDrone(50)},
      {3, Sheet.STATE, (Sheet.Call) s -> s.addPad(50)},
      {4, Sheet.STATE, (Sheet.Call) s -> s.takeOff(0)},
      {5, Sheet.UNSUPPORTED, (Sheet.Call) s -> s.land(3)},
      {6, Sheet.STATE, (Sheet.Call) s -> s.sendTo(9, 0)},
      {7, Sheet.ARGUMENT, (Sheet.Call) s -> s.setReserve(31)},
      {9, Sheet.INDEX, (Sheet.Call) s -> s.cellOf(10)},
      {10, Sheet.INDEX, (Sheet.Call) s -> s.battery(10)},
      {11, Sheet.INDEX, (Sheet.Call) s -> s.isFlying(10)},
      {12, Sheet.INDEX, (Sheet.Call) s -> s.isInEmergency(10)},
      {13, Sheet.MISSING, (Sheet.Call) s -> s.target(9)},
      {14, Sheet.INDEX, (Sheet.Call) s -> s.colour(10)},
      {15, Sheet.MISSING, (Sheet.Call) s -> s.droneAt(63)},
      {16, Sheet.INDEX, (Sheet.Call) s -> s.isPad(64)},
      {17, Sheet.INDEX, (Sheet.Call) s -> s.nearestPad(10)},
      {18, Sheet.INDEX, (Sheet.Call) s -> s.nearestPadByRings(10)},
      {19, Sheet.STATE, (Sheet.Call) s -> s.addToFormation(2, 1)},
      {20, Sheet.INDEX, (Sheet.Call) s -> s.clearFormation(4)},
      {21, Sheet.STATE, (Sheet.Call) s -> s.assign(0)},
      {22, Sheet.INDEX, (Sheet.Call) s -> s.formationMask(4)},
      {24, Sheet.INDEX, (Sheet.Call) s -> s.matchCount(4)},
      {25, Sheet.INDEX, (Sheet.Call) s -> s.matchCountByScan(4)},
      {26, Sheet.ARITHMETIC, (Sheet.Call) s -> s.coverage(0)},
      {27, Sheet.ARGUMENT, (Sheet.Call) s -> s.advance(31)},
      {29, Sheet.MISSING, (Sheet.Call) s -> s.wantedCell(9)},
      {32, Sheet.MISSING, (Sheet.Call) s -> s.droneAtRank(10)},
      {33, Sheet.ARGUMENT, (Sheet.Call) s -> s.batteryAfter(0, 31)},
      {34, Sheet.STATE, (Sheet.Call) s -> s.cueColour(0, 50, 1)},
      {41, Sheet.ARGUMENT, (Sheet.Call) s -> s.append((char) 127)},
      {45, Sheet.INDEX, (Sheet.Call) s -> s.describeRow(8)},
      {46, Sheet.INDEX, (Sheet.Call) s -> s.lineAt(8)},
    };
  }

  private static void refusedCalls() {
    String words = "A method that throws an exception changes nothing, except that run clears the command text and sets the error position or the failed command.";
    for (Object[] row : refusals()) {
      Sheet.sentence(
          (int) row[0],
          words,
          () -> Sheet.refused("the call", (String) row[1], ChangeSentences::full, (Sheet.Call) row[2]));
    }
    Sheet.sentence(
        42,
        words,
        () -> {
          Sheet.refusedRun("tick 30;clear 2;reserve 30;assign 0", Sheet.STATE, 3, ChangeSentences::full);
          Sheet.refusedRun("tick 30;clear 2;reserve 30;assign", Sheet.ARGUMENT, 33, ChangeSentences::full);
        });
    Sheet.sentence(
        50,
        words,
        () -> Sheet.refused("undo", Sheet.STATE, Sheet.with(ChangeSentences::full, ChangeSentences::forget), DroneLightShow::undo));
    Sheet.sentence(
        52, words, () -> Sheet.refusedAsItIs("restore", Sheet.STATE, ChangeSentences::full, DroneLightShow::restore));
  }

  /** Leaves no change to be undone. */
  private static void forget(DroneLightShow show) {
    show.save();
    show.restore();
  }

  /** For each promise with several exceptions: the calls to which more than one applies. */
  private static void firstOfSeveral() {
    several(2, Sheet.INDEX, s -> s.addDrone(64), s -> s.addDrone(-1));
    several(2, Sheet.STATE, s -> s.addDrone(5), s -> s.addDrone(9));
    several(3, Sheet.INDEX, s -> s.addPad(64), s -> s.addPad(-1));
    several(3, Sheet.ARGUMENT, s -> s.addPad(0), s -> s.addPad(63));
    several(4, Sheet.INDEX, s -> s.takeOff(10), s -> s.takeOff(-1));
    several(5, Sheet.INDEX, s -> s.land(10), s -> s.land(-1));
    several(5, Sheet.STATE, s -> s.land(8));
    several(6, Sheet.INDEX, s -> s.sendTo(9, 64), s -> s.sendTo(9, -1), s -> s.sendTo(10, 64));
    several(13, Sheet.INDEX, s -> s.target(10), s -> s.target(-1));
    several(15, Sheet.INDEX, s -> s.droneAt(64), s -> s.droneAt(-1));
    several(19, Sheet.INDEX, s -> s.addToFormation(4, 64), s -> s.addToFormation(2, 64), s -> s.addToFormation(-1, 0));
    several(19, Sheet.ARGUMENT, s -> s.addToFormation(2, 0), s -> s.addToFormation(2, 54));
    several(21, Sheet.INDEX, s -> s.assign(4), s -> s.assign(-1));
    several(26, Sheet.INDEX, s -> s.coverage(4), s -> s.coverage(-1));
    several(29, Sheet.INDEX, s -> s.wantedCell(10), s -> s.wantedCell(-1));
    several(33, Sheet.INDEX, s -> s.batteryAfter(10, 31), s -> s.batteryAfter(-1, -1));
    several(34, Sheet.INDEX, s -> s.cueColour(10, 0, 8), s -> s.cueColour(-1, 50, 1), s -> s.cueColour(10, 1000, 1));
    several(34, Sheet.ARGUMENT, s -> s.cueColour(0, 2, 1), s -> s.cueColour(0, 1000, 1), s -> s.cueColour(0, 50, 8));
    firstOfSeveralElsewhere();
  }

  private static final String FIRST = "If several exceptions apply, the exception listed first is thrown.";

  private static void several(int promise, String exception, Sheet.Call... calls) {
    Sheet.sentence(
        promise,
        FIRST,
        () -> {
          for (Sheet.Call call : calls) {
            Sheet.refused("the call", exception, ChangeSentences::full, call);
          }
        });
  }

  private static void firstOfSeveralElsewhere() {
    Sheet.sentence(
        4,
        FIRST,
        () -> {
          Sheet.Setup low = Sheet.with(Sheet.emergency(0, 63), s -> s.setReserve(30));
          Sheet.refused("flying with a battery at the reserve", Sheet.STATE, low, s -> s.takeOff(0));
        });
    for (int promise : new int[] {17, 18}) {
      Sheet.NumberedCall call = promise == 17 ? DroneLightShow::nearestPad : DroneLightShow::nearestPadByRings;
      Sheet.sentence(
          promise, FIRST, () -> Sheet.refusals(Sheet.INDEX, Sheet.drones(9), call, -1, 1, 10));
    }
    Sheet.sentence(
        41,
        FIRST,
        () -> {
          for (int code : new int[] {31, 127}) {
            Sheet.refusedAsItIs(
                "append to a full text", Sheet.ARGUMENT, Sheet.typed("x".repeat(60)), s -> s.append((char) code));
          }
        });
    Sheet.sentence(
        42,
        FIRST,
        () -> {
          Sheet.refusedRun("add 64;add", Sheet.ARGUMENT, 10, Sheet.drones());
          Sheet.refusedRun("clear 9;", Sheet.ARGUMENT, 8, Sheet.drones());
        });
  }
}
