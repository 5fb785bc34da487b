/** Promises 34 to 40: the cues and the totals. */
final class CueSentences {
  private CueSentences() {}

  static void all() {
    cueColour();
    refusedCues();
    cueCount();
    nextCueTime();
    movedTotal();
    blockedTotal();
    emergencyTotal();
    forcedTotal();
  }

  /** A grounded drone with so many pending cues, the first at the time 1, the next at 2. */
  private static Sheet.Setup cued(int count) {
    return Sheet.with(
        Sheet.drones(9),
        show -> {
          for (int cue = 1; cue <= count; cue++) {
            show.cueColour(0, cue, cue % 8);
          }
        });
  }

  private static void cueColour() {
    Sheet.sentence(
        34,
        "Adds a cue that sets the colour of a drone.",
        () -> {
          Sheet.Setup one = Sheet.with(Sheet.drones(9), s -> s.cueColour(0, 2, 5));
          Sheet.answers("at once", 0, one, s -> s.colour(0));
          Sheet.answers("a tick before", 0, Sheet.after(1, one), s -> s.colour(0));
          Sheet.answers("at the time", 5, Sheet.after(2, one), s -> s.colour(0));
          Sheet.Setup twice = Sheet.with(one, s -> s.cueColour(0, 2, 5));
          Sheet.answers("the same cue twice", 2, twice, DroneLightShow::cueCount);
          Sheet.Setup flying = Sheet.with(Sheet.flying(9), s -> s.cueColour(0, 1, 3));
          Sheet.answers("of a flying drone", 3, Sheet.after(1, flying), s -> s.colour(0));
        });
    Sheet.sentence(
        34,
        "`drone`: the drone",
        () -> {
          String[] want = {"700", "070", "007"};
          for (int drone = 0; drone < 3; drone++) {
            int number = drone;
            Sheet.Setup set = Sheet.after(1, Sheet.with(Sheet.drones(1, 2, 3), s -> s.cueColour(number, 1, 7)));
            Sheet.answers("of " + drone, want[drone], set, s -> "" + s.colour(0) + s.colour(1) + s.colour(2));
          }
        });
    Sheet.sentence(
        34,
        "`time`: the time of the cue",
        () -> {
          for (int time : new int[] {1, 2, 998, 999}) {
            DroneLightShow show = Sheet.with(Sheet.drones(9), s -> s.cueColour(0, time, 6)).make();
            Sheet.ticks(show, time - 1);
            Sheet.due("before " + time, show.colour(0) + " " + show.cueCount(), "0 1");
            show.advance(1);
            Sheet.due("at " + time, show.colour(0) + " " + show.cueCount(), "6 0");
          }
        });
    Sheet.sentence(
        34,
        "`colour`: the colour, 0 to 7",
        () ->
            Sheet.range(0, 7, n -> 1, Sheet.ARGUMENT, Sheet.drones(9), (s, n) -> s.cueColour(0, 1, n)));
    Sheet.sentence(
        34,
        "Returns the number of pending cues after the call.",
        () -> {
          for (int count : new int[] {0, 1, 10, 11}) {
            Sheet.answers("with " + count, count + 1, cued(count), s -> s.cueColour(0, 50, 1));
          }
          Sheet.answers("after the first of two", 2, Sheet.after(1, cued(2)), s -> s.cueColour(0, 50, 1));
          Sheet.answers("after both", 1, Sheet.after(2, cued(2)), s -> s.cueColour(0, 50, 1));
        });
  }

  private static void refusedCues() {
    Sheet.sentence(
        34,
        "Throws `IllegalArgumentException` if the time is not greater than the current time, is greater than 999, or the colour is not from 0 to 7",
        () -> {
          for (int now : new int[] {0, 1, 30}) {
            Sheet.Setup at = Sheet.after(now, Sheet.drones(9));
            Sheet.refusals(Sheet.ARGUMENT, at, (s, n) -> s.cueColour(0, n, 1), now - 1, now, Sheet.MIN);
            Sheet.answers("the next time", 1, at, s -> s.cueColour(0, now + 1, 1));
          }
          Sheet.range(1, 999, n -> 1, Sheet.ARGUMENT, Sheet.drones(9), (s, n) -> s.cueColour(0, n, 1));
          Sheet.Setup late = Sheet.after(998, Sheet.drones(9));
          Sheet.answers("999 at 998", 1, late, s -> s.cueColour(0, 999, 1));
          Sheet.refusals(Sheet.ARGUMENT, late, (s, n) -> s.cueColour(0, n, 1), 998, 1000);
          Sheet.Setup end = Sheet.after(999, Sheet.drones(9));
          Sheet.refusals(Sheet.ARGUMENT, end, (s, n) -> s.cueColour(0, n, 1), 999, 1000, 1001);
          Sheet.refusals(Sheet.ARGUMENT, Sheet.drones(9), (s, n) -> s.cueColour(0, 1, n), -1, 8, Sheet.MAX);
          Sheet.refusals(Sheet.ARGUMENT, cued(12), (s, n) -> s.cueColour(0, n, 1), 0, 1000);
          Sheet.refusals(Sheet.ARGUMENT, cued(12), (s, n) -> s.cueColour(0, 50, n), -1, 8);
        });
    Sheet.sentence(
        34,
        "Throws `IllegalStateException` if 12 cues are pending",
        () -> {
          Sheet.answers("with 10", 11, cued(10), s -> s.cueColour(0, 50, 1));
          Sheet.answers("with 11", 12, cued(11), s -> s.cueColour(0, 50, 1));
          Sheet.refused("with 12", Sheet.STATE, cued(12), s -> s.cueColour(0, 50, 1));
          Sheet.answers("when the first is done", 12, Sheet.after(1, cued(12)), s -> s.cueColour(0, 50, 1));
          Sheet.answers("with 11 after undo", 12, Sheet.with(cued(12), DroneLightShow::undo), s -> s.cueColour(0, 50, 1));
        });
  }

  private static void cueCount() {
    Sheet.sentence(
        35,
        "Returns the number of pending cues.",
        () -> {
          for (int count : new int[] {0, 1, 11, 12}) {
            Sheet.answers("cueCount", count, cued(count), DroneLightShow::cueCount);
          }
          DroneLightShow show = cued(12).make();
          Sheet.next("a thirteenth", show, "throws." + Sheet.STATE, s -> s.cueColour(0, 50, 1));
          Sheet.due("cueCount after it", show.cueCount(), 12);
          for (int left = 11; left >= 0; left--) {
            show.advance(1);
            Sheet.due("cueCount a tick later", show.cueCount(), left);
          }
          show.advance(1);
          Sheet.due("cueCount after the last", show.cueCount(), 0);
        });
    Sheet.sentence(
        35,
        "Returns the number of cues.",
        () -> {
          Sheet.Setup alike = Sheet.with(cued(1), s -> s.cueColour(0, 1, 1));
          Sheet.answers("two alike", 2, alike, DroneLightShow::cueCount);
          Sheet.answers("two alike, done", 0, Sheet.after(1, alike), DroneLightShow::cueCount);
          Sheet.answers("undone", 1, Sheet.with(alike, DroneLightShow::undo), DroneLightShow::cueCount);
        });
  }

  private static void nextCueTime() {
    Sheet.sentence(
        36,
        "Returns the time of the earliest pending cue.",
        () -> {
          DroneLightShow show = Sheet.drones(9).make();
          int[][] steps = {{500, 500}, {501, 500}, {499, 499}, {999, 499}, {2, 2}, {1, 1}, {3, 1}};
          for (int[] step : steps) {
            show.cueColour(0, step[0], 1);
            Sheet.due("with a cue at " + step[0], show.nextCueTime(), step[1]);
          }
          int[] want = {2, 3, 499};
          for (int next : want) {
            show.advance(1);
            Sheet.due("at " + show.now(), show.nextCueTime(), next);
          }
        });
    Sheet.sentence(
        36,
        "Returns the time.",
        () -> {
          for (int time : new int[] {1, 2, 998, 999}) {
            Sheet.Setup one = Sheet.with(Sheet.drones(9), s -> s.cueColour(0, time, 1));
            Sheet.answers("the only one", time, one, DroneLightShow::nextCueTime);
          }
        });
    Sheet.sentence(
        36,
        "Throws `NoSuchElementException` if no cue is pending",
        () -> {
          Sheet.refused("never one", Sheet.MISSING, Sheet.drones(9), DroneLightShow::nextCueTime);
          Sheet.answers("one", 1, cued(1), DroneLightShow::nextCueTime);
          Sheet.answers("a tick before the last", 2, Sheet.after(1, cued(2)), DroneLightShow::nextCueTime);
          Sheet.refused("none any more", Sheet.MISSING, Sheet.after(2, cued(2)), DroneLightShow::nextCueTime);
          Sheet.Setup undone = Sheet.with(cued(1), DroneLightShow::undo);
          Sheet.refused("none after undo", Sheet.MISSING, undone, DroneLightShow::nextCueTime);
        });
  }

  private static void movedTotal() {
    Sheet.sentence(
        37,
        "Returns the number of moves so far.",
        () -> {
          DroneLightShow show = Sheet.flying(0, 9).make();
          Sheet.due("at first", show.movedTotal(), 0);
          show.advance(1);
          Sheet.due("without targets", show.movedTotal(), 0);
          show.sendTo(0, 3);
          for (int moved : new int[] {1, 2, 3, 3}) {
            show.advance(1);
            Sheet.due("of one drone", show.movedTotal(), moved);
          }
          show.sendTo(0, 2);
          show.sendTo(1, 10);
          show.advance(30);
          Sheet.due("of both drones", show.movedTotal(), 5);
          show.undo();
          Sheet.due("after undo", show.movedTotal(), 3);
        });
    Sheet.sentence(
        37,
        "Returns the number of moves.",
        () -> {
          Sheet.Setup blocked = Sheet.with(Sheet.flying(0, 1), s -> s.sendTo(0, 1));
          Sheet.answers("not to be moved", 0, Sheet.after(3, blocked), DroneLightShow::movedTotal);
          Sheet.Setup aside = Sheet.with(Sheet.flying(0, 8), s -> s.sendTo(0, 9));
          Sheet.answers("aside", 1, Sheet.after(1, aside), DroneLightShow::movedTotal);
          Sheet.answers("asked for the future", 0, Sheet.with(aside, s -> s.batteryAfter(0, 9)), DroneLightShow::movedTotal);
        });
  }

  private static void blockedTotal() {
    Sheet.sentence(
        38,
        "Returns how often a drone could not move so far.",
        () -> {
          DroneLightShow show = Sheet.flying(0, 1).make();
          Sheet.due("at first", show.blockedTotal(), 0);
          show.sendTo(0, 1);
          for (int blocked = 1; blocked <= 3; blocked++) {
            show.advance(1);
            Sheet.due("of one drone", show.blockedTotal(), blocked);
          }
          show.sendTo(1, 0);
          show.advance(2);
          Sheet.due("of both drones", show.blockedTotal(), 7);
          show.undo();
          Sheet.due("after undo", show.blockedTotal(), 3);
        });
    Sheet.sentence(
        38,
        "Returns the number of times.",
        () -> {
          Sheet.Setup free = Sheet.with(Sheet.flying(0), s -> s.sendTo(0, 1));
          Sheet.answers("free", 0, Sheet.after(9, free), DroneLightShow::blockedTotal);
          Sheet.Setup later = Sheet.with(Sheet.flying(0, 2), s -> s.sendTo(0, 3));
          Sheet.answers("free for one tick", 0, Sheet.after(1, later), DroneLightShow::blockedTotal);
          Sheet.answers("then not", 1, Sheet.after(2, later), DroneLightShow::blockedTotal);
          Sheet.answers("asked for the future", 0, Sheet.with(later, s -> s.batteryAfter(0, 9)), DroneLightShow::blockedTotal);
        });
  }

  private static void emergencyTotal() {
    Sheet.sentence(
        39,
        "Returns the number of emergencies that have begun so far.",
        () -> {
          DroneLightShow show = Sheet.flying(0, 9).make();
          show.addPad(63);
          show.setReserve(30);
          Sheet.due("at first", show.emergencyTotal(), 0);
          Sheet.ticks(show, 69);
          Sheet.due("a tick before", show.emergencyTotal(), 0);
          show.advance(1);
          Sheet.due("two at once", show.emergencyTotal(), 2);
          show.advance(1);
          Sheet.due("a tick later", show.emergencyTotal(), 2);
          show.undo();
          show.undo();
          Sheet.due("after undo", show.emergencyTotal(), 0);
        });
    Sheet.sentence(
        39,
        "Returns the number of emergencies.",
        () -> {
          Sheet.answers("over a pad", 1, Sheet.emergency(0, 0), DroneLightShow::emergencyTotal);
          Sheet.answers("without pads", 0, Sheet.emergency(0), DroneLightShow::emergencyTotal);
          Sheet.Setup again = Sheet.with(Sheet.emergency(0, 0), s -> s.takeOff(0));
          Sheet.answers("a second time", 1, Sheet.after(4, again), DroneLightShow::emergencyTotal);
          Sheet.answers("a second time, a tick later", 2, Sheet.after(5, again), DroneLightShow::emergencyTotal);
        });
  }

  private static void forcedTotal() {
    Sheet.sentence(
        40,
        "Returns the number of forced landings so far.",
        () -> {
          DroneLightShow show = Sheet.flying(0, 9).make();
          Sheet.due("at first", show.forcedTotal(), 0);
          Sheet.ticks(show, 89);
          Sheet.due("a tick before", show.forcedTotal(), 0);
          show.advance(1);
          Sheet.due("two at once", show.forcedTotal(), 2);
          show.advance(1);
          Sheet.due("a tick later", show.forcedTotal(), 2);
          show.undo();
          show.undo();
          Sheet.due("after undo", show.forcedTotal(), 0);
        });
    Sheet.sentence(
        40,
        "Returns the number of forced landings.",
        () -> {
          Sheet.Setup landed = Sheet.with(Sheet.flying(0), s -> s.addPad(0));
          Sheet.answers("a landing", 0, Sheet.with(landed, s -> s.land(0)), DroneLightShow::forcedTotal);
          Sheet.answers("a landing in an emergency", 0, Sheet.emergency(0, 0), DroneLightShow::forcedTotal);
          Sheet.answers("without pads", 1, Sheet.emergency(0), DroneLightShow::forcedTotal);
          Sheet.Setup again = Sheet.with(Sheet.spent(10), s -> s.setReserve(9));
          Sheet.Setup twice = Sheet.after(1, Sheet.with(again, s -> s.takeOff(0)));
          Sheet.answers("a second time", 2, twice, DroneLightShow::forcedTotal);
          Sheet.Setup starved = Sheet.with(Sheet.flyingWith(0, 6), s -> s.addPad(63));
          Sheet.answers("1 left", 0, Sheet.after(3, starved), DroneLightShow::forcedTotal);
          Sheet.answers("0 left", 1, Sheet.after(4, starved), DroneLightShow::forcedTotal);
        });
  }
}
