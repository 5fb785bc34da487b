import java.util.ArrayDeque;
import java.util.ArrayList;
import java.util.Collections;
import java.util.Comparator;
import java.util.Deque;
import java.util.List;
import java.util.NoSuchElementException;
import java.util.TreeSet;
import java.util.regex.Matcher;
import java.util.regex.Pattern;

/**
 * Long mixed runs of calls, each answer compared with that of a model that was written from the
 * document alone, with lists, sets and regular expressions in the place of rows and masks.
 */
public final class ModelTest {
  private static final int RUNS = 1500;
  private static final int CALLS = 512;

  // ---- the model

  private static final class Drone {
    int row;
    int column;
    int battery = 100;
    int colour;
    boolean flying;
    boolean emergency;
    Integer target;

    Drone copy() {
      Drone result = new Drone();
      result.row = row;
      result.column = column;
      result.battery = battery;
      result.colour = colour;
      result.flying = flying;
      result.emergency = emergency;
      result.target = target;
      return result;
    }

    int cell() {
      return 8 * row + column;
    }

    int distanceTo(int cell) {
      return Math.abs(row - cell / 8) + Math.abs(column - cell % 8);
    }

    /** The wanted cell and, behind it, the one that is tried if the wanted one is taken. */
    List<Integer> ways() {
      List<Integer> result = new ArrayList<>();
      if (flying && target != null) {
        int down = Integer.signum(target / 8 - row);
        int right = Integer.signum(target % 8 - column);
        if (down != 0) {
          result.add(8 * (row + down) + column);
        }
        if (right != 0) {
          result.add(8 * row + column + right);
        }
      }
      return result;
    }

    void ground() {
      flying = false;
      emergency = false;
      target = null;
    }
  }

  private static final class World {
    List<Drone> drones = new ArrayList<>();
    TreeSet<Integer> pads = new TreeSet<>();
    List<TreeSet<Integer>> formations = new ArrayList<>();
    List<int[]> cues = new ArrayList<>();
    int reserve = 10;
    int time;
    int[] totals = new int[4];

    World() {
      for (int f = 0; f < 4; f++) {
        formations.add(new TreeSet<>());
      }
    }

    World copy() {
      World result = new World();
      for (Drone drone : drones) {
        result.drones.add(drone.copy());
      }
      result.pads.addAll(pads);
      for (int f = 0; f < 4; f++) {
        result.formations.get(f).addAll(formations.get(f));
      }
      result.cues.addAll(cues);
      result.reserve = reserve;
      result.time = time;
      result.totals = totals.clone();
      return result;
    }

    Drone at(int cell) {
      for (Drone drone : drones) {
        if (drone.cell() == cell) {
          return drone;
        }
      }
      return null;
    }

    Drone drone(int number) {
      index(number >= 0 && number < drones.size());
      return drones.get(number);
    }

    long flyingCount() {
      return drones.stream().filter(d -> d.flying).count();
    }

    int nearestPad(Drone drone) {
      missing(!pads.isEmpty());
      return Collections.min(pads, Comparator.comparing((Integer pad) -> drone.distanceTo(pad)));
    }

    long change(String name, int a, int b, int c) {
      switch (name) {
        case "add":
          index(a >= 0 && a < 64);
          state(drones.size() < 10);
          unsupported(at(a) == null);
          Drone added = new Drone();
          added.row = a / 8;
          added.column = a % 8;
          drones.add(added);
          return drones.size() - 1;
        case "pad":
          index(a >= 0 && a < 64);
          argument(!pads.contains(a));
          state(pads.size() < 4);
          pads.add(a);
          return pads.size();
        case "off":
          drone(a);
          state(!drone(a).flying);
          unsupported(drone(a).battery > reserve);
          drone(a).flying = true;
          return flyingCount();
        case "land":
          drone(a);
          state(drone(a).flying);
          unsupported(pads.contains(drone(a).cell()));
          drone(a).ground();
          return flyingCount();
        case "send":
          drone(a);
          index(b >= 0 && b < 64);
          state(drone(a).flying && !drone(a).emergency);
          drone(a).target = b;
          return drone(a).distanceTo(b);
        case "reserve":
          argument(a >= 5 && a <= 30);
          int previous = reserve;
          reserve = a;
          return previous;
        case "form":
          index(a >= 0 && a < 4 && b >= 0 && b < 64);
          argument(!formations.get(a).contains(b));
          state(formations.get(a).size() < 10);
          formations.get(a).add(b);
          return formations.get(a).size();
        case "clear":
          index(a >= 0 && a < 4);
          int size = formations.get(a).size();
          formations.get(a).clear();
          return size;
        case "assign":
          index(a >= 0 && a < 4);
          state(!formations.get(a).isEmpty());
          return assign(formations.get(a));
        case "tick":
          argument(a >= 1 && a <= 30);
          int moved = totals[0];
          for (int k = 0; k < a; k++) {
            tick();
          }
          return totals[0] - moved;
        case "colour":
          drone(a);
          argument(b > time && b <= 999 && c >= 0 && c <= 7);
          state(cues.size() < 12);
          cues.add(new int[] {a, b, c});
          return cues.size();
        default:
          throw new AssertionError(name);
      }
    }

    private long assign(TreeSet<Integer> cells) {
      List<Drone> free = new ArrayList<>();
      for (Drone drone : drones) {
        if (drone.flying && !drone.emergency) {
          drone.target = null;
          free.add(drone);
        }
      }
      int count = 0;
      for (int cell : cells) {
        if (free.isEmpty()) {
          return count;
        }
        // The minimum of a list is the first of the least, so the lowest number.
        Drone best = Collections.min(free, Comparator.comparing((Drone d) -> d.distanceTo(cell)));
        best.target = cell;
        free.remove(best);
        count++;
      }
      return count;
    }

    private void tick() {
      time++;
      for (int[] cue : cues) {
        if (cue[1] == time) {
          drones.get(cue[0]).colour = cue[2];
        }
      }
      cues.removeIf(cue -> cue[1] == time);
      List<Drone> movers = new ArrayList<>();
      for (Drone drone : drones) {
        List<Integer> ways = drone.ways();
        ways.removeIf(cell -> at(cell) != null);
        if (!ways.isEmpty()) {
          drone.row = ways.get(0) / 8;
          drone.column = ways.get(0) % 8;
          movers.add(drone);
          totals[0]++;
        } else if (!drone.ways().isEmpty()) {
          totals[1]++;
        }
      }
      for (Drone drone : drones) {
        if (drone.flying) {
          drone.battery = Math.max(0, drone.battery - (movers.contains(drone) ? 2 : 1));
        }
      }
      for (Drone drone : drones) {
        if (drone.flying && !drone.emergency && drone.battery <= reserve) {
          if (pads.isEmpty()) {
            drone.ground();
            totals[3]++;
          } else {
            drone.emergency = true;
            drone.target = nearestPad(drone);
            totals[2]++;
          }
        }
      }
      for (Drone drone : drones) {
        if (drone.flying && drone.emergency && drone.cell() == drone.target) {
          drone.ground();
        } else if (drone.flying && drone.battery == 0) {
          drone.ground();
          totals[3]++;
        }
      }
      for (Drone drone : drones) {
        if (!drone.flying && pads.contains(drone.cell())) {
          drone.battery = Math.min(100, drone.battery + 5);
        }
      }
    }
  }

  private static void index(boolean ok) {
    if (!ok) {
      throw new IndexOutOfBoundsException();
    }
  }

  private static void argument(boolean ok) {
    if (!ok) {
      throw new IllegalArgumentException();
    }
  }

  private static void state(boolean ok) {
    if (!ok) {
      throw new IllegalStateException();
    }
  }

  private static void unsupported(boolean ok) {
    if (!ok) {
      throw new UnsupportedOperationException();
    }
  }

  private static void missing(boolean ok) {
    if (!ok) {
      throw new NoSuchElementException();
    }
  }

  private static void arithmetic(boolean ok) {
    if (!ok) {
      throw new ArithmeticException();
    }
  }

  private static final Pattern COMMAND =
      Pattern.compile(
          "(add|pad|reserve|tick) ([0-9]{1,3})()()"
              + "|(off|land|clear|assign) ([0-9])()()"
              + "|(send|form) ([0-9]) ([0-9]{1,3})()"
              + "|(colour) ([0-9]) ([0-9]{1,3}) ([0-9])");
  private static final Pattern TEXT =
      Pattern.compile("(?:" + COMMAND + ")(?:;(?:" + COMMAND + "))*");

  private static final class Model {
    World world = new World();
    World snapshot;
    Deque<World> history = new ArrayDeque<>();
    String text = "";
    String line = "";
    Integer errorPosition;
    Integer failedCommand;

    private long change(String name, int a, int b, int c) {
      World next = world.copy();
      long answer = next.change(name, a, b, c);
      replace(next);
      return answer;
    }

    private void replace(World next) {
      history.addLast(world);
      if (history.size() > 8) {
        history.removeFirst();
      }
      world = next;
    }

    private static boolean canContinue(String piece) {
      Matcher matcher = TEXT.matcher(piece);
      return matcher.matches() || matcher.hitEnd();
    }

    private int run() {
      String commands = text;
      text = "";
      if (!TEXT.matcher(commands).matches()) {
        int position = 0;
        while (position < commands.length() && canContinue(commands.substring(0, position + 1))) {
          position++;
        }
        errorPosition = position;
        throw new IllegalArgumentException();
      }
      World next = world.copy();
      int index = 0;
      for (String command : commands.split(";")) {
        String[] words = command.split(" ");
        int[] numbers = new int[3];
        for (int k = 1; k < words.length; k++) {
          numbers[k - 1] = Integer.parseInt(words[k]);
        }
        try {
          next.change(words[0], numbers[0], numbers[1], numbers[2]);
        } catch (RuntimeException e) {
          failedCommand = index;
          throw new IllegalStateException();
        }
        index++;
      }
      replace(next);
      return index;
    }

    private int conflicts() {
      int pairs = 0;
      for (Drone one : world.drones) {
        for (Drone other : world.drones) {
          if (one != other && !one.ways().isEmpty() && !other.ways().isEmpty()) {
            pairs += one.ways().get(0).equals(other.ways().get(0)) ? 1 : 0;
          }
        }
      }
      return pairs / 2;
    }

    private int matches(int formation) {
      index(formation >= 0 && formation < 4);
      int count = 0;
      for (int cell : world.formations.get(formation)) {
        count += world.at(cell) != null && world.at(cell).flying ? 1 : 0;
      }
      return count;
    }

    private long mask(Iterable<Integer> cells) {
      long mask = 0;
      for (int cell : cells) {
        mask += 1L << cell;
      }
      return mask;
    }

    private int ranked(int rank) {
      missing(rank >= 0 && rank < world.drones.size());
      List<Drone> sorted = new ArrayList<>(world.drones);
      sorted.sort(Comparator.comparing((Drone d) -> d.battery).thenComparing(d -> d.flying ? 0 : 1));
      return world.drones.indexOf(sorted.get(rank));
    }

    private String describe(int row) {
      StringBuilder result = new StringBuilder();
      for (int cell = 8 * row; cell < 8 * row + 8; cell++) {
        int number = world.drones.indexOf(world.at(cell));
        if (number >= 0) {
          result.append((world.at(cell).flying ? "0123456789" : "abcdefghij").charAt(number));
        } else {
          result.append(world.pads.contains(cell) ? "_" : ".");
        }
      }
      return result.toString();
    }

    private float meanBattery() {
      arithmetic(!world.drones.isEmpty());
      int sum = world.drones.stream().mapToInt(d -> d.battery).sum();
      return (float) sum / (float) world.drones.size();
    }

    private double meanDistance() {
      arithmetic(world.drones.stream().anyMatch(d -> d.target != null));
      return world.drones.stream()
          .filter(d -> d.target != null)
          .mapToInt(d -> d.distanceTo(d.target))
          .average()
          .getAsDouble();
    }

    private int batteryAfter(int drone, int ticks) {
      world.drone(drone);
      argument(ticks >= 0 && ticks <= 30);
      World copy = world.copy();
      for (int k = 0; k < ticks; k++) {
        copy.tick();
      }
      return copy.drone(drone).battery;
    }

    private <T> T present(T answer) {
      missing(answer != null);
      return answer;
    }

    private int firstCue() {
      missing(!world.cues.isEmpty());
      return world.cues.stream().mapToInt(cue -> cue[1]).min().getAsInt();
    }

    private int append(char character) {
      argument(character >= 32 && character <= 126);
      state(text.length() < 60);
      text += character;
      return text.length();
    }

    private int undo() {
      state(!history.isEmpty());
      world = history.removeLast();
      return history.size();
    }

    private int restore() {
      state(snapshot != null);
      world = snapshot.copy();
      history.clear();
      return world.drones.size();
    }

    Object answer(int call, int a, int b, int c) {
      switch (call) {
        case 0: return (int) change("add", a, b, c);
        case 1: return (int) change("pad", a, b, c);
        case 2: return (int) change("off", a, b, c);
        case 3: return (int) change("land", a, b, c);
        case 4: return (int) change("send", a, b, c);
        case 5: return (int) change("reserve", a, b, c);
        case 6: return (int) change("form", a, b, c);
        case 7: return (int) change("clear", a, b, c);
        case 8: return (int) change("assign", a, b, c);
        case 9: return (int) change("tick", a, b, c);
        case 10: return (int) change("colour", a, b, c);
        case 11: return world.drones.size();
        case 12: return world.drone(a).cell();
        case 13: return world.drone(a).battery;
        case 14: return world.drone(a).flying;
        case 15: return world.drone(a).emergency;
        case 16: return present(world.drone(a).target);
        case 17: return world.drone(a).colour;
        case 18:
          index(a >= 0 && a < 64);
          return world.drones.indexOf(present(world.at(a)));
        case 19:
          index(a >= 0 && a < 64);
          return world.pads.contains(a);
        case 20:
        case 21: return world.nearestPad(world.drone(a));
        case 22:
          index(a >= 0 && a < 4);
          return mask(world.formations.get(a));
        case 23: return mask(world.drones.stream().map(Drone::cell)::iterator);
        case 24:
        case 25: return matches(a);
        case 26:
          matches(a);
          arithmetic(!world.formations.get(a).isEmpty());
          return (float) matches(a) / (float) world.formations.get(a).size();
        case 27: return world.time;
        case 28:
          missing(!world.drone(a).ways().isEmpty());
          return world.drone(a).ways().get(0);
        case 29:
        case 30: return conflicts();
        case 31: return ranked(a);
        case 32: return batteryAfter(a, b);
        case 33: return world.cues.size();
        case 34: return firstCue();
        case 35: return world.totals[0];
        case 36: return world.totals[1];
        case 37: return world.totals[2];
        case 38: return world.totals[3];
        case 39: return append((char) a);
        case 40: return run();
        case 41: return present(errorPosition);
        case 42: return present(failedCommand);
        case 43:
          index(a >= 0 && a < 8);
          line = describe(a);
          return line.length();
        case 44:
          index(a >= 0 && a < line.length());
          return line.charAt(a);
        case 45: return Float.floatToIntBits(meanBattery());
        case 46: return meanDistance();
        case 47: return true;
        case 48: return undo();
        case 49:
          snapshot = world.copy();
          return world.drones.size();
        default: return restore();
      }
    }
  }

  // ---- the program

  private static final String[] NAMES = {
    "addDrone", "addPad", "takeOff", "land", "sendTo", "setReserve", "addToFormation",
    "clearFormation", "assign", "advance", "cueColour", "droneCount", "cellOf", "battery",
    "isFlying", "isInEmergency", "target", "colour", "droneAt", "isPad", "nearestPad",
    "nearestPadByRings", "formationMask", "occupiedMask", "matchCount", "matchCountByScan",
    "coverage", "now", "wantedCell", "conflictCount", "conflictCountByCell", "droneAtRank",
    "batteryAfter", "cueCount", "nextCueTime", "movedTotal", "blockedTotal", "emergencyTotal",
    "forcedTotal", "append", "run", "errorPosition", "failedCommand", "describeRow", "lineAt",
    "meanBatteryBits", "meanDistance", "isConsistent", "undo", "save", "restore"
  };

  private static Object answer(DroneLightShow show, int call, int a, int b, int c) {
    switch (call) {
      case 0: return show.addDrone(a);
      case 1: return show.addPad(a);
      case 2: return show.takeOff(a);
      case 3: return show.land(a);
      case 4: return show.sendTo(a, b);
      case 5: return show.setReserve(a);
      case 6: return show.addToFormation(a, b);
      case 7: return show.clearFormation(a);
      case 8: return show.assign(a);
      case 9: return show.advance(a);
      case 10: return show.cueColour(a, b, c);
      case 11: return show.droneCount();
      case 12: return show.cellOf(a);
      case 13: return show.battery(a);
      case 14: return show.isFlying(a);
      case 15: return show.isInEmergency(a);
      case 16: return show.target(a);
      case 17: return show.colour(a);
      case 18: return show.droneAt(a);
      case 19: return show.isPad(a);
      case 20: return show.nearestPad(a);
      case 21: return show.nearestPadByRings(a);
      case 22: return show.formationMask(a);
      case 23: return show.occupiedMask();
      case 24: return show.matchCount(a);
      case 25: return show.matchCountByScan(a);
      case 26: return show.coverage(a);
      case 27: return show.now();
      case 28: return show.wantedCell(a);
      case 29: return show.conflictCount();
      case 30: return show.conflictCountByCell();
      case 31: return show.droneAtRank(a);
      case 32: return show.batteryAfter(a, b);
      case 33: return show.cueCount();
      case 34: return show.nextCueTime();
      case 35: return show.movedTotal();
      case 36: return show.blockedTotal();
      case 37: return show.emergencyTotal();
      case 38: return show.forcedTotal();
      case 39: return show.append((char) a);
      case 40: return show.run();
      case 41: return show.errorPosition();
      case 42: return show.failedCommand();
      case 43: return show.describeRow(a);
      case 44: return show.lineAt(a);
      case 45: return show.meanBatteryBits();
      case 46: return show.meanDistance();
      case 47: return show.isConsistent();
      case 48: return show.undo();
      case 49: return show.save();
      default: return show.restore();
    }
  }

  // ---- the runs

  /** A fixed sequence of numbers that look mixed, the same in every run of the test. */
  private static final class Mixer {
    private long state;

    Mixer(long seed) {
      state = seed * 0x9E3779B97F4A7C15L + 1;
    }

    int below(int bound) {
      state = state * 6364136223846793005L + 1442695040888963407L;
      return (int) ((state >>> 33) % bound);
    }

    boolean once(int in) {
      return below(in) == 0;
    }
  }

  private static final class Run {
    final int number;
    final Mixer mixer;
    final DroneLightShow show = new DroneLightShow();
    final Model model = new Model();
    final int[] met;
    int calls;

    Run(int number, int[] met) {
      this.number = number;
      this.mixer = new Mixer(number);
      this.met = met;
    }

    private int argument(int bound) {
      if (mixer.once(60)) {
        int[] wild = {-1, bound, Integer.MIN_VALUE, Integer.MAX_VALUE, bound + 1, 64, 8};
        return wild[mixer.below(wild.length)];
      }
      return mixer.below(bound);
    }

    private int drone() {
      return argument(Math.max(1, model.world.drones.size()));
    }

    /** Cells lie close together in every other run, so that drones are in each other's way. */
    private int cell() {
      if (number % 2 == 0 || mixer.once(8)) {
        return argument(64);
      }
      return 8 * mixer.below(3) + mixer.below(4) + 18;
    }

    boolean make(int call, int a, int b, int c) {
      calls++;
      String got;
      String want;
      try {
        got = String.valueOf(answer(show, call, a, b, c));
      } catch (RuntimeException e) {
        got = "throws." + e.getClass().getName();
      }
      try {
        want = String.valueOf(model.answer(call, a, b, c));
        met[call]++;
      } catch (RuntimeException e) {
        want = "throws." + e.getClass().getName();
      }
      if (!got.equals(want)) {
        System.out.println(
            "run " + number + ", call " + calls + ": " + NAMES[call]
                + "(" + a + ", " + b + ", " + c + ") answered " + got + ", due is " + want);
      }
      return got.equals(want);
    }

    boolean change() {
      switch (mixer.below(18)) {
        case 0: return make(0, cell(), 0, 0);
        case 1: return make(1, mixer.once(number % 5 + 1) ? cell() : 64, 0, 0);
        case 2:
        case 3: return make(2, drone(), 0, 0);
        case 4: return make(3, drone(), 0, 0);
        case 5:
        case 6:
        case 7:
        case 8: return make(4, drone(), cell(), 0);
        case 9: return make(5, 5 + argument(26), 0, 0);
        case 10:
        case 11: return make(6, argument(4), cell(), 0);
        case 12: return mixer.once(4) ? make(7, argument(4), 0, 0) : make(8, argument(4), 0, 0);
        case 13: return make(8, argument(4), 0, 0);
        case 14:
        case 15: return make(9, 1 + argument(mixer.once(3) ? 30 : 4), 0, 0);
        case 16: return make(10, drone(), time(), argument(8));
        default: return mixer.once(2) ? make(48, 0, 0, 0) : make(49 + mixer.below(2), 0, 0, 0);
      }
    }

    private int time() {
      return mixer.once(9) ? 990 + mixer.below(15) : model.world.time + argument(25);
    }

    private String number(int value) {
      return mixer.once(12) ? "0" + value : String.valueOf(value);
    }

    private String command() {
      switch (mixer.below(11)) {
        case 0: return "add " + number(mixer.below(70));
        case 1: return "pad " + number(mixer.below(70));
        case 2: return "off " + mixer.below(10);
        case 3: return "land " + mixer.below(10);
        case 4: return "send " + mixer.below(10) + " " + number(mixer.below(66));
        case 5: return "reserve " + number(3 + mixer.below(30));
        case 6: return "form " + mixer.below(5) + " " + number(mixer.below(66));
        case 7: return "clear " + mixer.below(5);
        case 8: return "assign " + mixer.below(5);
        case 9: return "tick " + number(mixer.below(33));
        default: return "colour " + mixer.below(10) + " " + number(time()) + " " + mixer.below(9);
      }
    }

    private String text() {
      StringBuilder text = new StringBuilder(command());
      while (!mixer.once(3) && text.length() < 45) {
        text.append(';').append(command());
      }
      if (mixer.once(3)) {
        String signs = "adpofnsertick gmlu0123456789;;  ~";
        int at = mixer.below(text.length());
        char sign = signs.charAt(mixer.below(signs.length()));
        switch (mixer.below(4)) {
          case 0: text.setCharAt(at, sign); break;
          case 1: text.insert(at, sign); break;
          case 2: text.deleteCharAt(at); break;
          default: text.setLength(at); break;
        }
      }
      return text.toString();
    }

    boolean runText() {
      String text = text();
      for (int k = 0; k < text.length(); k++) {
        if (!make(39, text.charAt(k), 0, 0)) {
          return false;
        }
      }
      return mixer.once(20) || (make(40, 0, 0, 0) && make(41, 0, 0, 0) && make(42, 0, 0, 0));
    }

    boolean query() {
      int call = 11 + mixer.below(37);
      switch (call) {
        case 18:
        case 19: return make(call, cell(), 0, 0);
        case 22:
        case 24:
        case 25:
        case 26: return make(call, argument(4), 0, 0);
        case 32: return make(call, drone(), argument(31), 0);
        case 39: return make(call, mixer.once(2) ? 'a' : 25 + mixer.below(110), 0, 0);
        case 40: return make(call, 0, 0, 0);
        case 43:
        case 44: return make(call, argument(8), 0, 0);
        default: return make(call, drone(), 0, 0);
      }
    }

    /** Every drone, row and total, so that no difference of states stays unseen for long. */
    boolean survey() {
      boolean ok = true;
      for (int drone = 0; ok && drone < model.world.drones.size(); drone++) {
        for (int call = 12; ok && call <= 17; call++) {
          ok = make(call, drone, 0, 0);
        }
      }
      for (int call = 33; ok && call <= 38; call++) {
        ok = make(call, 0, 0, 0);
      }
      return ok && make(27, 0, 0, 0);
    }

    boolean pass() {
      for (int k = 0; k < 4 + mixer.below(7); k++) {
        if (!make(0, cell(), 0, 0)) {
          return false;
        }
      }
      for (int drone = 0; drone < model.world.drones.size(); drone++) {
        if (!make(2, drone, 0, 0)) {
          return false;
        }
      }
      boolean ok = true;
      while (ok && calls < CALLS - 135) {
        int kind = mixer.below(40);
        ok = kind == 0 ? survey() : kind == 1 ? runText() : kind < 22 ? change() : query();
      }
      return ok && survey();
    }
  }

  public static void main(String[] args) {
    int wrong = 0;
    long calls = 0;
    int[] met = new int[NAMES.length];
    for (int number = 0; number < RUNS; number++) {
      Run run = new Run(number, met);
      wrong += run.pass() ? 0 : 1;
      calls += run.calls;
    }
    for (int call = 0; call < NAMES.length; call++) {
      if (met[call] == 0) {
        wrong++;
        System.out.println("no run met an answer of " + NAMES[call]);
      }
    }
    System.out.println(RUNS + " runs, " + calls + " calls, " + wrong + " wrong");
    if (wrong != 0) {
      System.exit(1);
    }
  }
}
