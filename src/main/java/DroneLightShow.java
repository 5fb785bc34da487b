import java.util.NoSuchElementException;

/**
 * A simulator of a drone light show on a grid, with formations, collision avoidance, battery
 * reserves and emergency landings.
 *
 * <p>Every change is tried on a draft of the scene, which takes the scene's place only if the
 * change succeeds: so a call that throws leaves the scene as it was.
 */
public final class DroneLightShow {
  private static final int SIDE = 8;
  private static final int CELLS = 64;
  private static final int MAX_DISTANCE = 14;
  private static final int MAX_DRONES = 10;
  private static final int MAX_PADS = 4;
  private static final int FORMATIONS = 4;
  private static final int MAX_FORMATION_CELLS = 10;
  private static final int MAX_CUES = 12;
  private static final int MAX_CUE_TIME = 999;
  private static final int COLOURS = 8;
  private static final int MAX_TICKS = 30;
  private static final int MAX_CHANGES = 8;
  private static final int FULL_BATTERY = 100;
  private static final int CHARGE = 5;
  private static final int FIRST_RESERVE = 10;
  private static final int LEAST_RESERVE = 5;
  private static final int MOST_RESERVE = 30;
  private static final int MAX_TEXT = 60;
  private static final int MAX_NUMBERS = 3;
  /** No command is shorter than five characters, so no text holds more of them. */
  private static final int MAX_COMMANDS = MAX_TEXT / 5;
  private static final char FIRST_CHARACTER = 32;
  private static final char LAST_CHARACTER = 126;

  /** Stands for a missing cell, drone or position. */
  private static final int NONE = -1;

  // What a change answers instead of its result, which is never negative, if it is refused.
  private static final int NO_SUCH_INDEX = -1;
  private static final int BAD_ARGUMENT = -2;
  private static final int WRONG_STATE = -3;
  private static final int UNSUPPORTED = -4;

  private static final Verb[] VERBS = Verb.values();

  private Scene scene;
  private Scene draft;
  private final Scene snapshot;
  private boolean hasSnapshot;
  private final History history;
  private final Script script;
  private int lastErrorPosition;
  private int lastFailedCommand;
  private final char[] line;
  private int lineLength;
  private final int[] wishes;

  public DroneLightShow() {
    scene = new Scene();
    draft = new Scene();
    snapshot = new Scene();
    history = new History();
    script = new Script();
    lastErrorPosition = NONE;
    lastFailedCommand = NONE;
    line = new char[SIDE];
    wishes = new int[CELLS];
  }

  // ---- drones and pads

  public int addDrone(int cell)
      throws IndexOutOfBoundsException, IllegalStateException, UnsupportedOperationException {
    draft.copyFrom(scene);
    return commit(draft.enlist(cell));
  }

  public int addPad(int cell)
      throws IndexOutOfBoundsException, IllegalArgumentException, IllegalStateException {
    draft.copyFrom(scene);
    return commit(draft.markPad(cell));
  }

  public int takeOff(int drone)
      throws IndexOutOfBoundsException, IllegalStateException, UnsupportedOperationException {
    draft.copyFrom(scene);
    return commit(draft.lift(drone));
  }

  public int land(int drone)
      throws IndexOutOfBoundsException, IllegalStateException, UnsupportedOperationException {
    draft.copyFrom(scene);
    return commit(draft.setDown(drone));
  }

  public int sendTo(int drone, int cell) throws IndexOutOfBoundsException, IllegalStateException {
    draft.copyFrom(scene);
    return commit(draft.aim(drone, cell));
  }

  public int setReserve(int percent) throws IllegalArgumentException {
    draft.copyFrom(scene);
    return commit(draft.changeReserve(percent));
  }

  public int droneCount() {
    return scene.fleet.count;
  }

  public int cellOf(int drone) throws IndexOutOfBoundsException {
    demandDrone(drone);
    return scene.fleet.cells[drone];
  }

  public int battery(int drone) throws IndexOutOfBoundsException {
    demandDrone(drone);
    return scene.fleet.batteries[drone];
  }

  public boolean isFlying(int drone) throws IndexOutOfBoundsException {
    demandDrone(drone);
    return scene.fleet.flying[drone];
  }

  public boolean isInEmergency(int drone) throws IndexOutOfBoundsException {
    demandDrone(drone);
    return scene.fleet.emergency[drone];
  }

  public int target(int drone) throws IndexOutOfBoundsException, NoSuchElementException {
    demandDrone(drone);
    return found(scene.fleet.targets[drone]);
  }

  public int colour(int drone) throws IndexOutOfBoundsException {
    demandDrone(drone);
    return scene.fleet.colours[drone];
  }

  public int droneAt(int cell) throws IndexOutOfBoundsException, NoSuchElementException {
    demandCell(cell);
    return found(scene.fleet.occupant(cell));
  }

  public boolean isPad(int cell) throws IndexOutOfBoundsException {
    demandCell(cell);
    return contains(scene.pads, cell);
  }

  public int nearestPad(int drone) throws IndexOutOfBoundsException, NoSuchElementException {
    demandDrone(drone);
    return found(scene.padByDistance(scene.fleet.cells[drone]));
  }

  public int nearestPadByRings(int drone)
      throws IndexOutOfBoundsException, NoSuchElementException {
    demandDrone(drone);
    return found(scene.padByRings(scene.fleet.cells[drone]));
  }

  // ---- formations

  public int addToFormation(int formation, int cell)
      throws IndexOutOfBoundsException, IllegalArgumentException, IllegalStateException {
    draft.copyFrom(scene);
    return commit(draft.extend(formation, cell));
  }

  public int clearFormation(int formation) throws IndexOutOfBoundsException {
    draft.copyFrom(scene);
    return commit(draft.empty(formation));
  }

  public int assign(int formation) throws IndexOutOfBoundsException, IllegalStateException {
    draft.copyFrom(scene);
    return commit(draft.distribute(formation));
  }

  public long formationMask(int formation) throws IndexOutOfBoundsException {
    demandFormation(formation);
    return scene.formations[formation];
  }

  public long occupiedMask() {
    return scene.fleet.allCells();
  }

  public int matchCount(int formation) throws IndexOutOfBoundsException {
    demandFormation(formation);
    return scene.matchesByMask(formation);
  }

  public int matchCountByScan(int formation) throws IndexOutOfBoundsException {
    demandFormation(formation);
    return scene.matchesByScan(formation);
  }

  public float coverage(int formation) throws IndexOutOfBoundsException, ArithmeticException {
    demandFormation(formation);
    int size = Long.bitCount(scene.formations[formation]);
    if (size == 0) {
      throw new ArithmeticException("the formation has no cells");
    }
    return (float) scene.matchesByMask(formation) / (float) size;
  }

  // ---- ticks

  public int advance(int ticks) throws IllegalArgumentException {
    draft.copyFrom(scene);
    return commit(draft.pass(ticks));
  }

  public int now() {
    return scene.time;
  }

  public int wantedCell(int drone) throws IndexOutOfBoundsException, NoSuchElementException {
    demandDrone(drone);
    return found(scene.fleet.wish(drone));
  }

  public int conflictCount() {
    return scene.fleet.conflictingPairs();
  }

  public int conflictCountByCell() {
    return pairsByCell();
  }

  public int droneAtRank(int rank) throws NoSuchElementException {
    return found(scene.fleet.ranked(rank));
  }

  public int batteryAfter(int drone, int ticks)
      throws IndexOutOfBoundsException, IllegalArgumentException {
    demandDrone(drone);
    if (ticks < 0 || ticks > MAX_TICKS) {
      throw new IllegalArgumentException("the number of ticks is not from 0 to 30");
    }
    draft.copyFrom(scene);
    for (int passed = 0; passed < ticks; passed++) {
      draft.tick();
    }
    return draft.fleet.batteries[drone];
  }

  // ---- cues

  public int cueColour(int drone, int time, int colour)
      throws IndexOutOfBoundsException, IllegalArgumentException, IllegalStateException {
    draft.copyFrom(scene);
    return commit(draft.schedule(drone, time, colour));
  }

  public int cueCount() {
    return scene.cues.count;
  }

  public int nextCueTime() throws NoSuchElementException {
    return found(scene.cues.earliest());
  }

  // ---- totals

  public int movedTotal() {
    return scene.moved;
  }

  public int blockedTotal() {
    return scene.blocked;
  }

  public int emergencyTotal() {
    return scene.emergencies;
  }

  public int forcedTotal() {
    return scene.forced;
  }

  // ---- commands

  public int append(char character) throws IllegalArgumentException, IllegalStateException {
    if (character < FIRST_CHARACTER || character > LAST_CHARACTER) {
      throw new IllegalArgumentException("the code of the character is not from 32 to 126");
    }
    if (script.length >= MAX_TEXT) {
      throw new IllegalStateException("the command text has 60 characters");
    }
    script.put(character);
    return script.length;
  }

  public int run() throws IllegalArgumentException, IllegalStateException {
    boolean wellFormed = script.parse();
    script.length = 0;
    if (!wellFormed) {
      lastErrorPosition = script.position;
      throw new IllegalArgumentException("the text is not a command text");
    }
    draft.copyFrom(scene);
    for (int index = 0; index < script.count; index++) {
      if (draft.carryOut(script.verbs[index], script.numbers[index]) < 0) {
        lastFailedCommand = index;
        throw new IllegalStateException("a command fails");
      }
    }
    return commit(script.count);
  }

  public int errorPosition() throws NoSuchElementException {
    return found(lastErrorPosition);
  }

  public int failedCommand() throws NoSuchElementException {
    return found(lastFailedCommand);
  }

  // ---- line, statistics, undo, snapshot

  public int describeRow(int row) throws IndexOutOfBoundsException {
    if (row < 0 || row >= SIDE) {
      throw new IndexOutOfBoundsException("no such row");
    }
    for (int column = 0; column < SIDE; column++) {
      line[column] = scene.picture(SIDE * row + column);
    }
    lineLength = SIDE;
    return lineLength;
  }

  public char lineAt(int index) throws IndexOutOfBoundsException {
    if (index < 0 || index >= lineLength) {
      throw new IndexOutOfBoundsException("no such index in the line");
    }
    return line[index];
  }

  public int meanBatteryBits() throws ArithmeticException {
    int drones = scene.fleet.count;
    if (drones == 0) {
      throw new ArithmeticException("there are no drones");
    }
    return bitsOf((float) scene.fleet.batterySum() / (float) drones);
  }

  public double meanDistance() throws ArithmeticException {
    int drones = scene.fleet.targetCount();
    if (drones == 0) {
      throw new ArithmeticException("no flying drone has a target");
    }
    return (double) scene.fleet.targetDistanceSum() / (double) drones;
  }

  public boolean isConsistent() {
    return Long.bitCount(scene.fleet.allCells()) == scene.fleet.count
        && scene.fleet.conflictingPairs() == pairsByCell()
        && matchCountsAgree()
        && nearestPadsAgree();
  }

  public int undo() throws IllegalStateException {
    if (history.count == 0) {
      throw new IllegalStateException("there is no change to undo");
    }
    history.takeBack(scene);
    return history.count;
  }

  public int save() {
    snapshot.copyFrom(scene);
    hasSnapshot = true;
    return snapshot.fleet.count;
  }

  public int restore() throws IllegalStateException {
    if (!hasSnapshot) {
      throw new IllegalStateException("there is no snapshot");
    }
    scene.copyFrom(snapshot);
    history.count = 0;
    return scene.fleet.count;
  }

  // ---- helpers of the face

  /** Lets the draft take the scene's place if its change succeeded, and throws otherwise. */
  private int commit(int answer) {
    if (answer < 0) {
      refuse(answer);
    }
    history.keep(scene);
    Scene old = scene;
    scene = draft;
    draft = old;
    return answer;
  }

  private static void refuse(int reason) {
    switch (reason) {
      case NO_SUCH_INDEX:
        throw new IndexOutOfBoundsException("no such drone, cell or formation");
      case BAD_ARGUMENT:
        throw new IllegalArgumentException("the argument is not allowed");
      case WRONG_STATE:
        throw new IllegalStateException("not possible in this state");
      default:
        throw new UnsupportedOperationException("not possible in this cell or with this battery");
    }
  }

  private static int found(int number) {
    if (number == NONE) {
      throw new NoSuchElementException("there is none");
    }
    return number;
  }

  private void demandDrone(int drone) {
    if (!scene.fleet.has(drone)) {
      throw new IndexOutOfBoundsException("no such drone");
    }
  }

  private static void demandCell(int cell) {
    if (!isCell(cell)) {
      throw new IndexOutOfBoundsException("no such cell");
    }
  }

  private static void demandFormation(int formation) {
    if (!isFormation(formation)) {
      throw new IndexOutOfBoundsException("no such formation");
    }
  }

  private int pairsByCell() {
    for (int cell = 0; cell < CELLS; cell++) {
      wishes[cell] = 0;
    }
    int pairs = 0;
    for (int drone = 0; drone < scene.fleet.count; drone++) {
      int cell = scene.fleet.wish(drone);
      if (cell != NONE) {
        // Each drone makes a pair with every earlier one that wants the same cell.
        pairs += wishes[cell];
        wishes[cell]++;
      }
    }
    return pairs;
  }

  private boolean matchCountsAgree() {
    for (int formation = 0; formation < FORMATIONS; formation++) {
      if (scene.matchesByMask(formation) != scene.matchesByScan(formation)) {
        return false;
      }
    }
    return true;
  }

  private boolean nearestPadsAgree() {
    for (int drone = 0; drone < scene.fleet.count; drone++) {
      int cell = scene.fleet.cells[drone];
      if (scene.padByDistance(cell) != scene.padByRings(cell)) {
        return false;
      }
    }
    return true;
  }

  // ---- the grid and numbers

  private static boolean isCell(int cell) {
    return cell >= 0 && cell < CELLS;
  }

  private static boolean isFormation(int formation) {
    return formation >= 0 && formation < FORMATIONS;
  }

  private static boolean contains(long mask, int cell) {
    return (mask & (1L << cell)) != 0;
  }

  private static int distance(int from, int to) {
    return Math.abs(from / SIDE - to / SIDE) + Math.abs(from % SIDE - to % SIDE);
  }

  /** Returns the cell in the next row towards the other cell, or NONE in the same row. */
  private static int rowStep(int from, int to) {
    if (from / SIDE == to / SIDE) {
      return NONE;
    }
    return from / SIDE < to / SIDE ? from + SIDE : from - SIDE;
  }

  /** Returns the cell in the next column towards the other cell, or NONE in the same column. */
  private static int columnStep(int from, int to) {
    if (from % SIDE == to % SIDE) {
      return NONE;
    }
    return from % SIDE < to % SIDE ? from + 1 : from - 1;
  }

  /**
   * Returns the bits of a float that is 0 or an ordinary number above 0. Float.floatToIntBits is
   * outside the language that the program keeps to; doubling and halving lose nothing.
   */
  private static int bitsOf(float value) {
    if (value <= 0f) {
      return 0;
    }
    float scaled = value;
    int exponent = 127;
    for (; scaled >= 2f && exponent < 254; exponent++) {
      scaled = scaled / 2f;
    }
    for (; scaled < 1f && exponent > 1; exponent--) {
      scaled = scaled * 2f;
    }
    return (exponent << 23) | (int) ((scaled - 1f) * 8388608f);
  }

  /** The commands: the word that begins one, and the most digits of each of its numbers. */
  private enum Verb {
    ADD("add ", "3"),
    PAD("pad ", "3"),
    OFF("off ", "1"),
    LAND("land ", "1"),
    SEND("send ", "13"),
    RESERVE("reserve ", "3"),
    FORM("form ", "13"),
    CLEAR("clear ", "1"),
    ASSIGN("assign ", "1"),
    TICK("tick ", "3"),
    COLOUR("colour ", "131");

    final String word;
    final String widths;

    Verb(String word, String widths) {
      this.word = word;
      this.widths = widths;
    }
  }

  /** The drones, each a number into every row. */
  private static final class Fleet {
    final int[] cells = new int[MAX_DRONES];
    final int[] batteries = new int[MAX_DRONES];
    final int[] targets = new int[MAX_DRONES];
    final int[] colours = new int[MAX_DRONES];
    final boolean[] flying = new boolean[MAX_DRONES];
    final boolean[] emergency = new boolean[MAX_DRONES];
    int count;

    void copyFrom(Fleet other) {
      count = other.count;
      for (int drone = 0; drone < MAX_DRONES; drone++) {
        cells[drone] = other.cells[drone];
        batteries[drone] = other.batteries[drone];
        targets[drone] = other.targets[drone];
        colours[drone] = other.colours[drone];
        flying[drone] = other.flying[drone];
        emergency[drone] = other.emergency[drone];
      }
    }

    boolean has(int drone) {
      return drone >= 0 && drone < count;
    }

    int occupant(int cell) {
      for (int drone = 0; drone < count; drone++) {
        if (cells[drone] == cell) {
          return drone;
        }
      }
      return NONE;
    }

    void ground(int drone) {
      flying[drone] = false;
      emergency[drone] = false;
      targets[drone] = NONE;
    }

    int flyingCount() {
      int result = 0;
      for (int drone = 0; drone < count; drone++) {
        if (flying[drone]) {
          result++;
        }
      }
      return result;
    }

    long allCells() {
      long mask = 0;
      for (int drone = 0; drone < count; drone++) {
        mask |= 1L << cells[drone];
      }
      return mask;
    }

    long flyingCells() {
      long mask = 0;
      for (int drone = 0; drone < count; drone++) {
        if (flying[drone]) {
          mask |= 1L << cells[drone];
        }
      }
      return mask;
    }

    /** Returns the cell to which a drone wants to move, or NONE if it does not want to move. */
    int wish(int drone) {
      if (!flying[drone] || targets[drone] == NONE) {
        return NONE;
      }
      int ahead = rowStep(cells[drone], targets[drone]);
      return ahead != NONE ? ahead : columnStep(cells[drone], targets[drone]);
    }

    /** Returns the cell to which a drone that wants to move can move, or NONE. */
    int freeStep(int drone) {
      int ahead = rowStep(cells[drone], targets[drone]);
      if (ahead != NONE && occupant(ahead) == NONE) {
        return ahead;
      }
      int aside = columnStep(cells[drone], targets[drone]);
      return aside != NONE && occupant(aside) == NONE ? aside : NONE;
    }

    int conflictingPairs() {
      int pairs = 0;
      for (int one = 0; one < count; one++) {
        int cell = wish(one);
        for (int other = one + 1; other < count; other++) {
          if (cell != NONE && cell == wish(other)) {
            pairs++;
          }
        }
      }
      return pairs;
    }

    int ranked(int rank) {
      for (int drone = 0; drone < count; drone++) {
        if (rankOf(drone) == rank) {
          return drone;
        }
      }
      return NONE;
    }

    private int rankOf(int drone) {
      int rank = 0;
      for (int other = 0; other < count; other++) {
        if (precedes(other, drone)) {
          rank++;
        }
      }
      return rank;
    }

    private boolean precedes(int one, int other) {
      if (batteries[one] != batteries[other]) {
        return batteries[one] < batteries[other];
      }
      if (flying[one] != flying[other]) {
        return flying[one];
      }
      return one < other;
    }

    boolean isAssignable(int drone) {
      return flying[drone] && !emergency[drone];
    }

    void dropTargets() {
      for (int drone = 0; drone < count; drone++) {
        if (isAssignable(drone)) {
          targets[drone] = NONE;
        }
      }
    }

    /** Returns the assignable drone without a target that is nearest to a cell, or NONE. */
    int nearestIdle(int cell) {
      int nearest = NONE;
      for (int drone = 0; drone < count; drone++) {
        if (isAssignable(drone) && targets[drone] == NONE) {
          if (nearest == NONE || distance(cells[drone], cell) < distance(cells[nearest], cell)) {
            nearest = drone;
          }
        }
      }
      return nearest;
    }

    int batterySum() {
      int sum = 0;
      for (int drone = 0; drone < count; drone++) {
        sum += batteries[drone];
      }
      return sum;
    }

    // A grounded drone has no target, so a target alone tells that a drone is flying.
    int targetCount() {
      int result = 0;
      for (int drone = 0; drone < count; drone++) {
        if (targets[drone] != NONE) {
          result++;
        }
      }
      return result;
    }

    int targetDistanceSum() {
      int sum = 0;
      for (int drone = 0; drone < count; drone++) {
        if (targets[drone] != NONE) {
          sum += distance(cells[drone], targets[drone]);
        }
      }
      return sum;
    }
  }

  /** The pending cues in the order in which they were added. */
  private static final class CueList {
    final int[] drones = new int[MAX_CUES];
    final int[] times = new int[MAX_CUES];
    final int[] colours = new int[MAX_CUES];
    int count;

    void copyFrom(CueList other) {
      count = other.count;
      for (int cue = 0; cue < MAX_CUES; cue++) {
        put(cue, other.drones[cue], other.times[cue], other.colours[cue]);
      }
    }

    void put(int cue, int drone, int time, int colour) {
      drones[cue] = drone;
      times[cue] = time;
      colours[cue] = colour;
    }

    /** Returns the time of the earliest cue, or NONE. */
    int earliest() {
      int result = NONE;
      for (int cue = 0; cue < count; cue++) {
        if (result == NONE || times[cue] < result) {
          result = times[cue];
        }
      }
      return result;
    }

    void fire(int time, Fleet fleet) {
      int kept = 0;
      for (int cue = 0; cue < count; cue++) {
        if (times[cue] == time) {
          fleet.colours[drones[cue]] = colours[cue];
        } else {
          put(kept, drones[cue], times[cue], colours[cue]);
          kept++;
        }
      }
      count = kept;
    }
  }

  /** Everything that a change can change. A change answers a negative reason if it is refused. */
  private static final class Scene {
    final Fleet fleet = new Fleet();
    final CueList cues = new CueList();
    final long[] formations = new long[FORMATIONS];
    long pads;
    int reserve = FIRST_RESERVE;
    int time;
    int moved;
    int blocked;
    int emergencies;
    int forced;

    void copyFrom(Scene other) {
      fleet.copyFrom(other.fleet);
      cues.copyFrom(other.cues);
      for (int formation = 0; formation < FORMATIONS; formation++) {
        formations[formation] = other.formations[formation];
      }
      pads = other.pads;
      reserve = other.reserve;
      time = other.time;
      moved = other.moved;
      blocked = other.blocked;
      emergencies = other.emergencies;
      forced = other.forced;
    }

    int carryOut(Verb verb, int[] numbers) {
      if (verb == null || numbers == null || numbers.length < MAX_NUMBERS) {
        return BAD_ARGUMENT;
      }
      switch (verb) {
        case ADD:
          return enlist(numbers[0]);
        case PAD:
          return markPad(numbers[0]);
        case OFF:
          return lift(numbers[0]);
        case LAND:
          return setDown(numbers[0]);
        case SEND:
          return aim(numbers[0], numbers[1]);
        case RESERVE:
          return changeReserve(numbers[0]);
        case FORM:
          return extend(numbers[0], numbers[1]);
        case CLEAR:
          return empty(numbers[0]);
        case ASSIGN:
          return distribute(numbers[0]);
        case TICK:
          return pass(numbers[0]);
        default:
          return schedule(numbers[0], numbers[1], numbers[2]);
      }
    }

    int enlist(int cell) {
      if (!isCell(cell)) {
        return NO_SUCH_INDEX;
      }
      if (fleet.count >= MAX_DRONES) {
        return WRONG_STATE;
      }
      if (fleet.occupant(cell) != NONE) {
        return UNSUPPORTED;
      }
      int drone = fleet.count;
      fleet.cells[drone] = cell;
      fleet.batteries[drone] = FULL_BATTERY;
      fleet.colours[drone] = 0;
      fleet.ground(drone);
      fleet.count++;
      return drone;
    }

    int markPad(int cell) {
      if (!isCell(cell)) {
        return NO_SUCH_INDEX;
      }
      if (contains(pads, cell)) {
        return BAD_ARGUMENT;
      }
      if (Long.bitCount(pads) >= MAX_PADS) {
        return WRONG_STATE;
      }
      pads |= 1L << cell;
      return Long.bitCount(pads);
    }

    int lift(int drone) {
      if (!fleet.has(drone)) {
        return NO_SUCH_INDEX;
      }
      if (fleet.flying[drone]) {
        return WRONG_STATE;
      }
      if (fleet.batteries[drone] <= reserve) {
        return UNSUPPORTED;
      }
      fleet.flying[drone] = true;
      return fleet.flyingCount();
    }

    int setDown(int drone) {
      if (!fleet.has(drone)) {
        return NO_SUCH_INDEX;
      }
      if (!fleet.flying[drone]) {
        return WRONG_STATE;
      }
      if (!contains(pads, fleet.cells[drone])) {
        return UNSUPPORTED;
      }
      fleet.ground(drone);
      return fleet.flyingCount();
    }

    int aim(int drone, int cell) {
      if (!fleet.has(drone) || !isCell(cell)) {
        return NO_SUCH_INDEX;
      }
      if (!fleet.flying[drone] || fleet.emergency[drone]) {
        return WRONG_STATE;
      }
      fleet.targets[drone] = cell;
      return distance(fleet.cells[drone], cell);
    }

    int changeReserve(int percent) {
      if (percent < LEAST_RESERVE || percent > MOST_RESERVE) {
        return BAD_ARGUMENT;
      }
      int previous = reserve;
      reserve = percent;
      return previous;
    }

    int extend(int formation, int cell) {
      if (!isFormation(formation) || !isCell(cell)) {
        return NO_SUCH_INDEX;
      }
      if (contains(formations[formation], cell)) {
        return BAD_ARGUMENT;
      }
      if (Long.bitCount(formations[formation]) >= MAX_FORMATION_CELLS) {
        return WRONG_STATE;
      }
      formations[formation] |= 1L << cell;
      return Long.bitCount(formations[formation]);
    }

    int empty(int formation) {
      if (!isFormation(formation)) {
        return NO_SUCH_INDEX;
      }
      int removed = Long.bitCount(formations[formation]);
      formations[formation] = 0;
      return removed;
    }

    int distribute(int formation) {
      if (!isFormation(formation)) {
        return NO_SUCH_INDEX;
      }
      if (formations[formation] == 0) {
        return WRONG_STATE;
      }
      fleet.dropTargets();
      int assigned = 0;
      for (int cell = 0; cell < CELLS; cell++) {
        int drone = contains(formations[formation], cell) ? fleet.nearestIdle(cell) : NONE;
        if (drone != NONE) {
          fleet.targets[drone] = cell;
          assigned++;
        }
      }
      return assigned;
    }

    int schedule(int drone, int cueTime, int colour) {
      if (!fleet.has(drone)) {
        return NO_SUCH_INDEX;
      }
      if (cueTime <= time || cueTime > MAX_CUE_TIME || colour < 0 || colour >= COLOURS) {
        return BAD_ARGUMENT;
      }
      if (cues.count >= MAX_CUES) {
        return WRONG_STATE;
      }
      cues.put(cues.count, drone, cueTime, colour);
      cues.count++;
      return cues.count;
    }

    int pass(int ticks) {
      if (ticks < 1 || ticks > MAX_TICKS) {
        return BAD_ARGUMENT;
      }
      int movedBefore = moved;
      for (int passed = 0; passed < ticks; passed++) {
        tick();
      }
      return moved - movedBefore;
    }

    void tick() {
      time++;
      cues.fire(time, fleet);
      moveDrones();
      beginEmergencies();
      endFlights();
      chargeDrones();
    }

    /** Steps 2 and 3 in one walk, since no move depends on a battery. */
    private void moveDrones() {
      for (int drone = 0; drone < fleet.count; drone++) {
        int loss = 1;
        if (fleet.wish(drone) != NONE) {
          int cell = fleet.freeStep(drone);
          if (cell == NONE) {
            blocked++;
          } else {
            fleet.cells[drone] = cell;
            moved++;
            loss = 2;
          }
        }
        if (fleet.flying[drone]) {
          fleet.batteries[drone] = Math.max(0, fleet.batteries[drone] - loss);
        }
      }
    }

    private void beginEmergencies() {
      for (int drone = 0; drone < fleet.count; drone++) {
        if (fleet.isAssignable(drone) && fleet.batteries[drone] <= reserve) {
          int pad = padByDistance(fleet.cells[drone]);
          if (pad == NONE) {
            forceDown(drone);
          } else {
            fleet.emergency[drone] = true;
            fleet.targets[drone] = pad;
            emergencies++;
          }
        }
      }
    }

    private void endFlights() {
      for (int drone = 0; drone < fleet.count; drone++) {
        if (fleet.emergency[drone] && fleet.cells[drone] == fleet.targets[drone]) {
          fleet.ground(drone);
        } else if (fleet.flying[drone] && fleet.batteries[drone] == 0) {
          forceDown(drone);
        }
      }
    }

    private void forceDown(int drone) {
      fleet.ground(drone);
      forced++;
    }

    private void chargeDrones() {
      for (int drone = 0; drone < fleet.count; drone++) {
        if (!fleet.flying[drone] && contains(pads, fleet.cells[drone])) {
          fleet.batteries[drone] = Math.min(FULL_BATTERY, fleet.batteries[drone] + CHARGE);
        }
      }
    }

    /** Returns the pad nearest to a cell, found by comparing all pads, or NONE. */
    int padByDistance(int from) {
      int nearest = NONE;
      for (int cell = 0; cell < CELLS; cell++) {
        if (contains(pads, cell)) {
          if (nearest == NONE || distance(from, cell) < distance(from, nearest)) {
            nearest = cell;
          }
        }
      }
      return nearest;
    }

    /** Returns the pad nearest to a cell, found ring by ring, or NONE. */
    int padByRings(int from) {
      for (int radius = 0; radius <= MAX_DISTANCE; radius++) {
        int pad = padOnRing(from, radius);
        if (pad != NONE) {
          return pad;
        }
      }
      return NONE;
    }

    private int padOnRing(int centre, int radius) {
      for (int row = 0; row < SIDE; row++) {
        int reach = radius - Math.abs(row - centre / SIDE);
        int left = centre % SIDE - reach;
        int right = centre % SIDE + reach;
        if (reach >= 0 && left >= 0 && contains(pads, SIDE * row + left)) {
          return SIDE * row + left;
        }
        if (reach >= 0 && right < SIDE && contains(pads, SIDE * row + right)) {
          return SIDE * row + right;
        }
      }
      return NONE;
    }

    int matchesByMask(int formation) {
      return Long.bitCount(formations[formation] & fleet.flyingCells());
    }

    int matchesByScan(int formation) {
      int matches = 0;
      for (int cell = 0; cell < CELLS; cell++) {
        int drone = fleet.occupant(cell);
        if (contains(formations[formation], cell) && drone != NONE && fleet.flying[drone]) {
          matches++;
        }
      }
      return matches;
    }

    /** Returns the character that stands for a cell in the line. */
    char picture(int cell) {
      int drone = fleet.occupant(cell);
      if (drone != NONE) {
        return (char) ((fleet.flying[drone] ? '0' : 'a') + drone);
      }
      return contains(pads, cell) ? '_' : '.';
    }
  }

  /** The scenes before the latest changes: a ring that overwrites its oldest scene. */
  private static final class History {
    private final Scene[] scenes = new Scene[MAX_CHANGES];
    private int oldest;
    int count;

    History() {
      for (int slot = 0; slot < MAX_CHANGES; slot++) {
        scenes[slot] = new Scene();
      }
    }

    void keep(Scene scene) {
      if (count == MAX_CHANGES) {
        oldest = (oldest + 1) % MAX_CHANGES;
        count--;
      }
      scenes[(oldest + count) % MAX_CHANGES].copyFrom(scene);
      count++;
    }

    /** Puts the latest scene, of which there must be one, into the given scene. */
    void takeBack(Scene scene) {
      count--;
      scene.copyFrom(scenes[(oldest + count) % MAX_CHANGES]);
    }
  }

  /** The command text and the commands that were read from it. */
  private static final class Script {
    private final char[] characters = new char[MAX_TEXT];
    int length;
    final Verb[] verbs = new Verb[MAX_COMMANDS];
    final int[][] numbers = new int[MAX_COMMANDS][MAX_NUMBERS];
    int count;
    int position;

    /** Appends a character to a text that is not full. */
    void put(char character) {
      characters[length] = character;
      length++;
    }

    /** Reads the text; if it is no command text, the position is the error position after it. */
    boolean parse() {
      position = 0;
      for (int command = 0; command < MAX_COMMANDS; command++) {
        if (!parseCommand(command)) {
          return false;
        }
        count = command + 1;
        if (position == length) {
          return true;
        }
        if (!skip(';')) {
          return false;
        }
      }
      return false;
    }

    private boolean parseCommand(int command) {
      Verb verb = parseVerb();
      if (verb == null) {
        return false;
      }
      verbs[command] = verb;
      for (int index = 0; index < verb.widths.length() && index < MAX_NUMBERS; index++) {
        if (index > 0 && !skip(' ')) {
          return false;
        }
        int number = parseNumber(verb.widths.charAt(index) - '0');
        if (number == NONE) {
          return false;
        }
        numbers[command][index] = number;
      }
      return true;
    }

    /** Returns the verb at the position, or null; moves on as far as any verb's word goes. */
    private Verb parseVerb() {
      int furthest = 0;
      for (int index = 0; index < VERBS.length; index++) {
        String word = VERBS[index].word;
        int same = sameCharacters(word);
        if (same == word.length()) {
          position += same;
          return VERBS[index];
        }
        furthest = Math.max(furthest, same);
      }
      position += furthest;
      return null;
    }

    private int sameCharacters(String word) {
      int same = 0;
      while (same < word.length()
          && position + same < length
          && characters[position + same] == word.charAt(same)) {
        same++;
      }
      return same;
    }

    /** Returns the number of at most that many digits at the position, or NONE. */
    private int parseNumber(int width) {
      int number = NONE;
      for (int digits = 0; digits < width && atDigit(); digits++) {
        int digit = characters[position] - '0';
        number = number == NONE ? digit : 10 * number + digit;
        position++;
      }
      return number;
    }

    private boolean atDigit() {
      return position < length && characters[position] >= '0' && characters[position] <= '9';
    }

    private boolean skip(char character) {
      if (position >= length || characters[position] != character) {
        return false;
      }
      position++;
      return true;
    }
  }
}
