import java.util.Arrays;

/**
 * Runs and records programs of nested statements, tells what each statement hangs on, and cuts a
 * program down to the part on which one of its statements hangs.
 */
public final class SliceLoom {
  private static final int REFUSED = -2;
  private static final int NOTHING = -2000000000;
  private static final int END = -1;

  private static final int MOST_PROGRAMS = 16;
  private static final int MOST_LINES = 60;
  private static final int MOST_OPEN = 12;
  private static final int MOST_FUEL = 20000;
  private static final int MOST_TOLD = 300;
  private static final int MOST_STEPS = 400;
  /** Far above the rounds that the widest program needs until its sets stay as they are. */
  private static final int MOST_ROUNDS = 10000;

  private static final int NAMES = 8;
  private static final int ROWS = 3;
  private static final int PLACES = 4;

  private static final int SET = 0;
  private static final int STORE = 1;
  private static final int TELL = 2;
  private static final int IF = 3;
  private static final int ELSE = 4;
  private static final int WHILE = 5;
  private static final int CLOSE = 6;
  private static final int LEAVE = 7;
  private static final int GIVE = 8;

  private static final int ALONE = 0;
  private static final int PLUS = 1;
  private static final int MINUS = 2;
  private static final int TIMES = 3;
  private static final int DIVIDED = 4;
  private static final int REST = 5;
  private static final int LESS = 6;
  private static final int FROM_ROW = 8;

  private final Program[] programs = new Program[MOST_PROGRAMS];
  private final int[] startTells = new int[NAMES];
  private final int[] numbersInCut = new int[MOST_LINES];
  private final Machine latest = new Machine();
  private final Machine other = new Machine();
  private int programCount;
  /** The number of the program that ran latest, -1 before the first RUN. */
  private int latestProgram = -1;
  /** The SET AT HAND, a bit for each LINE. */
  private long atHand;

  public SliceLoom() {
    Arrays.fill(numbersInCut, -1);
  }

  public int program() {
    if (programCount >= MOST_PROGRAMS) {
      return REFUSED;
    }
    programs[programCount] = new Program();
    programCount++;
    return programCount - 1;
  }

  public int line(int program, int kind, int x, int e) {
    Program lines = programAt(program);
    if (lines == null || !lines.takes(kind, x, e)) {
      return REFUSED;
    }
    lines.append(kind, x, e);
    if (program == latestProgram) {
      latest.steps.clear();
    }
    return lines.size - 1;
  }

  public int of(int program, int p, int what) {
    Program lines = programAt(program);
    if (lines == null || !lines.isLine(p)) {
      return NOTHING;
    }
    switch (what) {
      case 0:
        return lines.kinds[p];
      case 1:
        return lines.xs[p];
      case 2:
        return lines.es[p];
      case 3:
        return lines.isWhole() ? lines.behind(p) : END;
      case 4:
        return lines.depths[p];
      default:
        return NOTHING;
    }
  }

  public int whole(int program) {
    Program lines = programAt(program);
    if (lines == null) {
      return REFUSED;
    }
    return lines.isWhole() ? 1 : 0;
  }

  public int start(int name, int v) {
    if (!Expression.isName(name)) {
      return NOTHING;
    }
    int before = startTells[name];
    startTells[name] = v;
    return before;
  }

  public int run(int program, int fuel) {
    Program lines = wholeAt(program);
    if (lines == null || !isFuel(fuel)) {
      return REFUSED;
    }
    latestProgram = program;
    latest.begin(lines, fuel, startTells);
    latest.finish();
    return latest.outcome();
  }

  public int ran(int what) {
    if (latestProgram < 0) {
      return -1;
    }
    switch (what) {
      case 0:
        return latest.done;
      case 1:
        return latest.at;
      case 2:
        return latest.tellings;
      case 3:
        return latestProgram;
      default:
        return REFUSED;
    }
  }

  public int told(int i) {
    boolean isTold = i >= 0 && i < latest.tellings && i < MOST_TOLD;
    return isTold ? latest.numbersTold[i] : 0;
  }

  public int value(int name) {
    return Expression.isName(name) ? latest.names[name] : 0;
  }

  public int place(int row, int i) {
    int cell = Expression.cellOf(row, i);
    return cell >= 0 ? latest.cells[cell] : 0;
  }

  public int hangs(int program, int s, int t) {
    Hanging hanging = hangingOf(program, s);
    if (hanging == null || !hasStatement(program, t)) {
      return REFUSED;
    }
    int readOn = Bits.holds(hanging.readOn[s], t) ? 1 : 0;
    int decided = Bits.holds(hanging.decided[s], t) ? 2 : 0;
    return readOn + decided;
  }

  public int slice(int program, int s) {
    Hanging hanging = hangingOf(program, s);
    if (hanging == null) {
      return REFUSED;
    }
    return takeInHand(hanging.sliceOf(Bits.one(s)));
  }

  public int onward(int program, int t) {
    Hanging hanging = hangingOf(program, t);
    if (hanging == null) {
      return REFUSED;
    }
    return takeInHand(hanging.onwardOf(t));
  }

  public int between(int program, int s, int t) {
    Hanging hanging = hangingOf(program, s);
    if (hanging == null || !hasStatement(program, t)) {
      return REFUSED;
    }
    return takeInHand(hanging.sliceOf(Bits.one(s)) & hanging.onwardOf(t));
  }

  public int used(int program) {
    Program lines = wholeAt(program);
    if (lines == null) {
      return REFUSED;
    }
    return takeInHand(lines.hanging.upTo(lines).sliceOf(lines.allOfKind(TELL)));
  }

  public int never(int program) {
    Program lines = wholeAt(program);
    if (lines == null) {
      return REFUSED;
    }
    return takeInHand(lines.statements() & ~lines.ways.upTo(lines).fromBegin());
  }

  public int has(int p) {
    return p >= 0 && p < MOST_LINES && Bits.holds(atHand, p) ? 1 : 0;
  }

  public int far(int program, int s, int t) {
    Hanging hanging = hangingOf(program, s);
    if (hanging == null || !hasStatement(program, t)) {
      return REFUSED;
    }
    return hanging.distance(s, t);
  }

  public int cut(int program, int s) {
    Hanging hanging = hangingOf(program, s);
    Program lines = wholeAt(program);
    if (hanging == null || lines == null || programCount >= MOST_PROGRAMS) {
      return REFUSED;
    }
    programs[programCount] = lines.cutTo(hanging.sliceOf(Bits.one(s)), numbersInCut);
    programCount++;
    return programCount - 1;
  }

  public int became(int p) {
    return p >= 0 && p < MOST_LINES ? numbersInCut[p] : -1;
  }

  public int same(int a, int b) {
    Program left = programAt(a);
    Program right = programAt(b);
    if (left == null || right == null) {
      return REFUSED;
    }
    return left.hasLinesOf(right) ? 1 : 0;
  }

  public int beside(int a, int p, int b, int q, int fuel) {
    Program left = wholeAt(a);
    Program right = wholeAt(b);
    if (left == null || right == null || !isFuel(fuel)) {
      return REFUSED;
    }
    if (!left.isStatement(p) || !right.isStatement(q)) {
      return REFUSED;
    }
    latestProgram = b;
    other.begin(left, fuel, startTells);
    latest.begin(right, fuel, startTells);
    int answer = compareAt(p, q);
    latest.finish();
    return answer;
  }

  public int step(int i) {
    return latest.steps.isStep(i) ? latest.steps.statements[i] : -1;
  }

  public int trace(int i) {
    if (!markTrace(i)) {
      return REFUSED;
    }
    return takeInHand(latest.steps.markedStatements());
  }

  public int traced(int i, int j) {
    if (!latest.steps.isStep(j) || !markTrace(i)) {
      return REFUSED;
    }
    return latest.steps.marked[j] ? 1 : 0;
  }

  public int count(int what) {
    switch (what) {
      case 0:
        return programCount;
      case 1:
        return linesInAll();
      case 2:
        return latest.steps.size;
      case 3:
        return Long.bitCount(atHand);
      default:
        return REFUSED;
    }
  }

  private static boolean isFuel(int fuel) {
    return fuel >= 0 && fuel <= MOST_FUEL;
  }

  /** The program of this number, or null when there is none such. */
  private Program programAt(int program) {
    return program >= 0 && program < programCount ? programs[program] : null;
  }

  /** The program of this number, or null when there is none such or it isn't WHOLE. */
  private Program wholeAt(int program) {
    Program lines = programAt(program);
    return lines != null && lines.isWhole() ? lines : null;
  }

  private boolean hasStatement(int program, int s) {
    Program lines = wholeAt(program);
    return lines != null && lines.isStatement(s);
  }

  /** What hangs on what in a program, or null when it isn't WHOLE or s is no STATEMENT of it. */
  private Hanging hangingOf(int program, int s) {
    Program lines = wholeAt(program);
    return lines != null && lines.isStatement(s) ? lines.hanging.upTo(lines) : null;
  }

  private int takeInHand(long lines) {
    atHand = lines;
    return Long.bitCount(lines);
  }

  private int linesInAll() {
    int all = 0;
    for (int i = 0; i < programCount; i++) {
      Program lines = programAt(i);
      all += lines == null ? 0 : lines.size;
    }
    return all;
  }

  /** Goes on with both RUNS in turn, so that no numbers need be kept to compare them. */
  private int compareAt(int p, int q) {
    for (int n = 0; n <= MOST_FUEL; n++) {
      boolean otherHas = other.goOnTo(p);
      boolean latestHas = latest.goOnTo(q);
      if (!otherHas) {
        return latestHas ? 1 : 0;
      }
      if (!latestHas) {
        return 2;
      }
      if (other.number != latest.number) {
        return 3;
      }
    }
    return 0;
  }

  /** Marks the TRACE of STEP i; false when the RECORD has no such STEP. */
  private boolean markTrace(int i) {
    Program lines = wholeAt(latestProgram);
    if (lines == null || !latest.steps.isStep(i)) {
      return false;
    }
    latest.steps.markFrom(i, lines.hanging.upTo(lines).decided);
    return true;
  }

  /** Sets of LINES, a bit for each. */
  private static final class Bits {
    static long one(int p) {
      return 1L << p;
    }

    static boolean holds(long set, int p) {
      return (set >>> p & 1L) != 0;
    }

    static int lowest(long set) {
      return Long.bitCount((set & -set) - 1);
    }
  }

  /** How expressions, operands and the places of rows are told. */
  private static final class Expression {
    static int sort(int e) {
      return e >> 16;
    }

    static int left(int e) {
      return e >> 8 & 255;
    }

    static int right(int e) {
      return e & 255;
    }

    static boolean isName(int operand) {
      return operand >= 0 && operand < NAMES;
    }

    /** The NAME that an operand is, or -1 when it is a number. */
    static int nameOf(int operand) {
      return isName(operand) ? operand : -1;
    }

    static boolean isNumber(int operand) {
      return operand >= 100 && operand <= 200;
    }

    static boolean isOperand(int operand) {
      return isName(operand) || isNumber(operand);
    }

    static boolean isOne(int e) {
      if (e < 0 || sort(e) > FROM_ROW) {
        return false;
      }
      boolean leftFits = sort(e) == FROM_ROW ? left(e) < ROWS : isOperand(left(e));
      boolean rightFits = sort(e) == ALONE ? right(e) == 0 : isOperand(right(e));
      return leftFits && rightFits;
    }

    /** The place among those of all rows, or -1 when there is none such. */
    static int cellOf(int row, int place) {
      boolean exists = row >= 0 && row < ROWS && place >= 0 && place < PLACES;
      return exists ? row * PLACES + place : -1;
    }
  }

  /** The LINES of a program, and how its parts lie in each other. */
  private static final class Program {
    final int[] kinds = new int[MOST_LINES];
    final int[] xs = new int[MOST_LINES];
    final int[] es = new int[MOST_LINES];
    /** Of each LINE the IF or WHILE whose part is the innermost that it is in, or -1. */
    final int[] around = new int[MOST_LINES];
    final int[] depths = new int[MOST_LINES];
    /** Of each IF and WHILE its CLOSE, and of each IF its ELSE, or -1. */
    final int[] closes = new int[MOST_LINES];
    final int[] elses = new int[MOST_LINES];
    /** Of each LINE the NAMES that its e reads, and the one that tells its place; -1 for none. */
    final int[] namesLeft = new int[MOST_LINES];
    final int[] namesRight = new int[MOST_LINES];
    final int[] namesPlace = new int[MOST_LINES];
    final Ways ways = new Ways();
    final Hanging hanging = new Hanging();
    int size;
    /** The IF or WHILE that BEGAN latest and has no CLOSE yet, or -1. */
    int open = -1;
    int openCount;

    boolean isLine(int p) {
      return p >= 0 && p < size;
    }

    boolean isWhole() {
      return openCount == 0;
    }

    boolean isStatement(int p) {
      return isLine(p) && kinds[p] != ELSE && kinds[p] != CLOSE;
    }

    static boolean hasExpression(int kind) {
      return kind == SET || kind == STORE || kind == TELL || kind == IF || kind == WHILE;
    }

    boolean takes(int kind, int x, int e) {
      if (size >= MOST_LINES || kind < SET || kind > GIVE) {
        return false;
      }
      boolean fitsE = hasExpression(kind) ? Expression.isOne(e) : e == 0;
      return fitsE && fitsX(kind, x) && fitsParts(kind);
    }

    private boolean fitsX(int kind, int x) {
      switch (kind) {
        case SET:
          return Expression.isName(x);
        case STORE:
          return x >= 0 && rowStored(x) < ROWS && Expression.isOperand(placeStored(x));
        case LEAVE:
          return x >= 1 && x <= whilesAround(open, MOST_OPEN, -1L);
        default:
          return x == 0;
      }
    }

    private boolean fitsParts(int kind) {
      switch (kind) {
        case IF:
        case WHILE:
          return openCount < MOST_OPEN;
        case ELSE:
          return open >= 0 && kinds[open] == IF && elses[open] < 0;
        case CLOSE:
          return open >= 0;
        default:
          return true;
      }
    }

    void append(int kind, int x, int e) {
      if (size >= MOST_LINES) {
        return;
      }
      int p = size;
      kinds[p] = kind;
      xs[p] = x;
      es[p] = e;
      around[p] = open;
      depths[p] = openCount;
      closes[p] = -1;
      elses[p] = -1;
      noteNames(p);
      size++;
      if (kind == IF || kind == WHILE) {
        open = p;
        openCount++;
      } else if (kind == ELSE && open >= 0) {
        elses[open] = p;
      } else if (kind == CLOSE && open >= 0) {
        closes[open] = p;
        open = around[open];
        openCount--;
      }
    }

    private void noteNames(int p) {
      int sort = Expression.sort(es[p]);
      boolean hasLeft = hasExpression(kinds[p]) && sort != FROM_ROW;
      boolean hasRight = hasExpression(kinds[p]) && sort != ALONE;
      namesLeft[p] = hasLeft ? Expression.nameOf(Expression.left(es[p])) : -1;
      namesRight[p] = hasRight ? Expression.nameOf(Expression.right(es[p])) : -1;
      namesPlace[p] = kinds[p] == STORE ? Expression.nameOf(placeStored(xs[p])) : -1;
    }

    static int rowStored(int x) {
      return x & 3;
    }

    static int placeStored(int x) {
      return x >> 2;
    }

    /** How many of the innermost WHILES, so many at most, from part p outwards are in a set. */
    int whilesAround(int p, int most, long among) {
      int met = 0;
      int counted = 0;
      int part = p;
      for (int n = 0; n < MOST_OPEN && part >= 0 && met < most; n++) {
        if (kinds[part] == WHILE) {
          met++;
          counted += Bits.holds(among, part) ? 1 : 0;
        }
        part = around[part];
      }
      return counted;
    }

    /** The WHILE that a LEAVE leaves last, or -1. */
    int whileLeft(int p) {
      int part = around[p];
      int met = 0;
      for (int n = 0; n < MOST_OPEN && part >= 0; n++) {
        met += kinds[part] == WHILE ? 1 : 0;
        if (met == xs[p]) {
          return part;
        }
        part = around[part];
      }
      return -1;
    }

    /** The STATEMENT BEHIND a LINE of a WHOLE program (or behind none, -1), or the END. */
    int behind(int p) {
      int q = p + 1;
      for (int n = 0; n <= MOST_LINES && q >= 0 && q < size; n++) {
        int part = around[q];
        boolean isStatement = kinds[q] != ELSE && kinds[q] != CLOSE;
        if (isStatement || part < 0) {
          return q;
        }
        if (kinds[q] == CLOSE && kinds[part] == WHILE) {
          return part;
        }
        q = closes[part] + 1;
      }
      return END;
    }

    long statements() {
      long all = 0;
      for (int p = 0; p < size; p++) {
        all |= isStatement(p) ? Bits.one(p) : 0;
      }
      return all;
    }

    long allOfKind(int kind) {
      long all = 0;
      for (int p = 0; p < size; p++) {
        all |= kinds[p] == kind ? Bits.one(p) : 0;
      }
      return all;
    }

    long settersOf(int name) {
      long all = 0;
      for (int p = 0; p < size; p++) {
        all |= kinds[p] == SET && xs[p] == name ? Bits.one(p) : 0;
      }
      return all;
    }

    boolean readsRow(int p) {
      return hasExpression(kinds[p]) && Expression.sort(es[p]) == FROM_ROW;
    }

    boolean readsName(int p, int name) {
      return namesLeft[p] == name || namesRight[p] == name || namesPlace[p] == name;
    }

    /** Whether s READS the ROW that t stores into, and perhaps the same place. */
    boolean readsStored(int s, int t) {
      if (!readsRow(s) || Expression.left(es[s]) != rowStored(xs[t])) {
        return false;
      }
      int read = Expression.right(es[s]);
      int stored = placeStored(xs[t]);
      return read == stored || Expression.isName(read) || Expression.isName(stored);
    }

    boolean hasLinesOf(Program that) {
      boolean alike = size == that.size;
      for (int p = 0; p < size && alike; p++) {
        alike = kinds[p] == that.kinds[p] && xs[p] == that.xs[p] && es[p] == that.es[p];
      }
      return alike;
    }

    /** The program of the LINES in a SLICE; tells of each LINE its number there, or -1. */
    Program cutTo(long slice, int[] numbers) {
      Program made = new Program();
      Arrays.fill(numbers, -1);
      for (int p = 0; p < size && p < numbers.length; p++) {
        int keeper = isStatement(p) ? p : around[p];
        if (keeper < 0 || !Bits.holds(slice, keeper)) {
          continue;
        }
        numbers[p] = made.size;
        int x = kinds[p] == LEAVE ? whilesAround(around[p], xs[p], slice) : xs[p];
        made.append(kinds[p], x, es[p]);
      }
      return made;
    }
  }

  /** The WAYS on from each STATEMENT of a WHOLE program. */
  private static final class Ways {
    /** Where it goes on when e is not 0, and when it is; the same where e doesn't decide it. */
    final int[] ahead = new int[MOST_LINES];
    final int[] aside = new int[MOST_LINES];
    /** The other LOOSE WAY, beside the one in ahead. */
    final int[] loose = new int[MOST_LINES];
    /** Of each STATEMENT those to which one WAY leads. */
    final long[] next = new long[MOST_LINES];
    int begin = END;
    /** How many LINES the program had when this was laid; enough, since none is taken away. */
    int sizeKnown = -1;

    Ways upTo(Program lines) {
      if (sizeKnown != lines.size) {
        sizeKnown = lines.size;
        begin = lines.behind(-1);
        for (int p = 0; p < lines.size; p++) {
          layFrom(lines, p);
        }
      }
      return this;
    }

    private void layFrom(Program lines, int p) {
      int behind = lines.behind(p);
      ahead[p] = behind;
      aside[p] = behind;
      loose[p] = behind;
      int kind = lines.kinds[p];
      if (kind == IF || kind == WHILE) {
        aside[p] = lines.behind(lines.elses[p] >= 0 ? lines.elses[p] : lines.closes[p]);
        loose[p] = aside[p];
      } else if (kind == LEAVE) {
        int left = lines.whileLeft(p);
        ahead[p] = left < 0 ? END : lines.behind(lines.closes[left]);
        aside[p] = ahead[p];
      } else if (kind == GIVE) {
        ahead[p] = END;
        aside[p] = END;
      }
      long first = ahead[p] >= 0 ? Bits.one(ahead[p]) : 0;
      long second = aside[p] >= 0 ? Bits.one(aside[p]) : 0;
      next[p] = first | second;
    }

    /** All to which a row of WAYS (one at least) leads from p with none of a set between. */
    long reach(int p, long blocks) {
      long seen = next[p];
      long todo = seen & ~blocks;
      for (int n = 0; n < MOST_LINES && todo != 0; n++) {
        int q = Bits.lowest(todo);
        long fresh = next[q] & ~seen;
        seen |= fresh;
        todo = (todo & todo - 1) | (fresh & ~blocks);
      }
      return seen;
    }

    /** The STATEMENT with which a RUN begins, and all to which a row of WAYS leads from it. */
    long fromBegin() {
      return begin < 0 ? 0 : Bits.one(begin) | reach(begin, 0);
    }
  }

  /** On what each STATEMENT of a WHOLE program HANGS. */
  private static final class Hanging {
    /** Of each STATEMENT those that are READ ON by it, and those by which it IS DECIDED. */
    final long[] readOn = new long[MOST_LINES];
    final long[] decided = new long[MOST_LINES];
    /** Of each STATEMENT those on each row of LOOSE WAYS from it to the END. */
    final long[] sure = new long[MOST_LINES];
    int size = -1;

    Hanging upTo(Program lines) {
      if (size != lines.size) {
        size = lines.size;
        Ways ways = lines.ways.upTo(lines);
        Arrays.fill(readOn, 0);
        Arrays.fill(decided, 0);
        findReadOn(lines, ways);
        findSure(lines, ways);
        findDecided(lines, ways);
      }
      return this;
    }

    private void findReadOn(Program lines, Ways ways) {
      for (int t = 0; t < size; t++) {
        boolean sets = lines.kinds[t] == SET;
        if (!sets && lines.kinds[t] != STORE) {
          continue;
        }
        long reached = ways.reach(t, sets ? lines.settersOf(lines.xs[t]) : 0);
        for (int s = 0; s < size; s++) {
          boolean reads = sets ? lines.readsName(s, lines.xs[t]) : lines.readsStored(s, t);
          readOn[s] |= reads && Bits.holds(reached, s) ? Bits.one(t) : 0;
        }
      }
    }

    /** Begins with all and takes away until nothing changes, later LINES first. */
    private void findSure(Program lines, Ways ways) {
      Arrays.fill(sure, -1L);
      boolean changed = true;
      for (int round = 0; round < MOST_ROUNDS && changed; round++) {
        changed = false;
        for (int p = size - 1; p >= 0; p--) {
          if (!lines.isStatement(p)) {
            continue;
          }
          long now = Bits.one(p) | (sureFrom(ways.ahead[p]) & sureFrom(ways.loose[p]));
          if (now != sure[p]) {
            sure[p] = now;
            changed = true;
          }
        }
      }
    }

    private long sureFrom(int v) {
      return v >= 0 ? sure[v] : 0;
    }

    private void findDecided(Program lines, Ways ways) {
      for (int d = 0; d < size; d++) {
        int kind = lines.kinds[d];
        if (kind != IF && kind != WHILE && kind != LEAVE && kind != GIVE) {
          continue;
        }
        long open = ~sure[d] | Bits.one(d);
        long behindOne = sureFrom(ways.ahead[d]) | sureFrom(ways.loose[d]);
        for (int s = 0; s < size; s++) {
          decided[s] |= Bits.holds(behindOne & open, s) ? Bits.one(d) : 0;
        }
      }
    }

    /** All on which one of a set HANGS, in one go or more, and the set itself. */
    long sliceOf(long set) {
      long seen = set;
      long todo = set;
      for (int n = 0; n < MOST_LINES && todo != 0; n++) {
        int s = Bits.lowest(todo);
        long fresh = (readOn[s] | decided[s]) & ~seen;
        seen |= fresh;
        todo = (todo & todo - 1) | fresh;
      }
      return seen;
    }

    /** All that HANG on t, in one go or more, and t itself. */
    long onwardOf(int t) {
      long seen = Bits.one(t);
      boolean changed = true;
      for (int round = 0; round < MOST_ROUNDS && changed; round++) {
        changed = false;
        for (int s = 0; s < size; s++) {
          if (!Bits.holds(seen, s) && ((readOn[s] | decided[s]) & seen) != 0) {
            seen |= Bits.one(s);
            changed = true;
          }
        }
      }
      return seen;
    }

    /** How many times one must go from s to come to t; -1 when no number of times is enough. */
    int distance(int s, int t) {
      long seen = Bits.one(s);
      for (int far = 0; far <= MOST_LINES; far++) {
        if (Bits.holds(seen, t)) {
          return far;
        }
        seen |= directlyUnder(seen);
      }
      return -1;
    }

    private long directlyUnder(long set) {
      long under = 0;
      for (int s = 0; s < size; s++) {
        under |= Bits.holds(set, s) ? readOn[s] | decided[s] : 0;
      }
      return under;
    }
  }

  /** One RUN, which can be halted and gone on with. */
  private static final class Machine {
    final int[] names = new int[NAMES];
    final int[] cells = new int[ROWS * PLACES];
    final int[] numbersTold = new int[MOST_TOLD];
    final Steps steps = new Steps();
    Program lines;
    Ways ways;
    int at = END;
    int done;
    int fuel;
    int tellings;
    /** What e of the latest STEP came to, and the place of a row that it READ, or -1. */
    int number;
    int cellRead = -1;
    boolean refused;

    void begin(Program program, int fuelGiven, int[] startTells) {
      for (int name = 0; name < NAMES && name < startTells.length; name++) {
        names[name] = startTells[name];
      }
      Arrays.fill(cells, 0);
      steps.clear();
      lines = program;
      ways = program.ways.upTo(program);
      at = ways.begin;
      done = 0;
      fuel = fuelGiven;
      tellings = 0;
      refused = false;
    }

    private boolean isOver() {
      return lines == null || ways == null || at == END || refused || done >= fuel;
    }

    int outcome() {
      if (refused) {
        return 1;
      }
      return at == END ? 0 : 2;
    }

    void finish() {
      for (int n = 0; n < MOST_FUEL && !isOver(); n++) {
        doStatement();
      }
    }

    /** Goes on until e of LINE p has come to a number; false when the RUN ends without. */
    boolean goOnTo(int p) {
      for (int n = 0; n < MOST_FUEL && !isOver(); n++) {
        boolean isThere = at == p;
        doStatement();
        if (isThere) {
          return !refused;
        }
      }
      return false;
    }

    private void doStatement() {
      int p = at;
      int kind = lines.kinds[p];
      int x = lines.xs[p];
      cellRead = -1;
      number = Program.hasExpression(kind) ? workOut(lines.es[p]) : 0;
      int cell = kind == STORE ? cellStored(x) : -1;
      if (kind == STORE && cell < 0) {
        refused = true;
      }
      steps.note(lines, p, cellRead);
      done++;
      if (refused) {
        return;
      }
      if (kind == SET) {
        names[x] = number;
        steps.noteSet(x);
      } else if (kind == STORE) {
        cells[cell] = number;
        steps.noteStored(cell);
      } else if (kind == TELL) {
        tellNumber();
      }
      at = number != 0 ? ways.ahead[p] : ways.aside[p];
    }

    private void tellNumber() {
      if (tellings < MOST_TOLD) {
        numbersTold[tellings] = number;
      }
      tellings++;
    }

    private int cellStored(int x) {
      return Expression.cellOf(Program.rowStored(x), numberOf(Program.placeStored(x)));
    }

    private int numberOf(int operand) {
      return Expression.isName(operand) ? names[operand] : operand - 150;
    }

    private int workOut(int e) {
      int right = numberOf(Expression.right(e));
      if (Expression.sort(e) == FROM_ROW) {
        return readCell(Expression.left(e), right);
      }
      int left = numberOf(Expression.left(e));
      switch (Expression.sort(e)) {
        case ALONE:
          return left;
        case PLUS:
          return left + right;
        case MINUS:
          return left - right;
        case TIMES:
          return left * right;
        case DIVIDED:
          return divide(left, right, false);
        case REST:
          return divide(left, right, true);
        case LESS:
          return left < right ? 1 : 0;
        default:
          return left == right ? 1 : 0;
      }
    }

    private int divide(int left, int right, boolean asksRest) {
      if (right == 0) {
        refused = true;
        return 0;
      }
      return asksRest ? left % right : left / right;
    }

    private int readCell(int row, int place) {
      cellRead = Expression.cellOf(row, place);
      if (cellRead < 0) {
        refused = true;
        return 0;
      }
      return cells[cellRead];
    }
  }

  /** THE RECORD: the first STEPS of a RUN, and from which earlier ones each has what it READS. */
  private static final class Steps {
    /** A STEP READS at most three things: two operands (or one and a place), and of a STORE one. */
    static final int SOURCES = 3;

    final int[] statements = new int[MOST_STEPS];
    final int[] sources = new int[MOST_STEPS * SOURCES];
    final boolean[] marked = new boolean[MOST_STEPS];
    final int[] latestSet = new int[NAMES];
    final int[] latestStored = new int[ROWS * PLACES];
    int size;

    void clear() {
      size = 0;
      Arrays.fill(latestSet, -1);
      Arrays.fill(latestStored, -1);
    }

    boolean isStep(int i) {
      return i >= 0 && i < size;
    }

    void note(Program lines, int p, int cellRead) {
      if (size >= MOST_STEPS) {
        return;
      }
      int first = size * SOURCES;
      statements[size] = p;
      sources[first] = cellRead >= 0 ? latestStored[cellRead] : setterOf(lines.namesLeft[p]);
      sources[first + 1] = setterOf(lines.namesRight[p]);
      sources[first + 2] = setterOf(lines.namesPlace[p]);
      size++;
    }

    private int setterOf(int name) {
      return name >= 0 ? latestSet[name] : -1;
    }

    void noteSet(int name) {
      latestSet[name] = size - 1;
    }

    void noteStored(int cell) {
      latestStored[cell] = size - 1;
    }

    /** Marks the TRACE of STEP i. A STEP hangs on earlier ones alone: one pass back is enough. */
    void markFrom(int i, long[] decided) {
      for (int k = 0; k < size; k++) {
        marked[k] = k == i;
      }
      for (int k = i; k >= 0 && k < size; k--) {
        if (!marked[k]) {
          continue;
        }
        for (int n = 0; n < SOURCES; n++) {
          mark(sources[k * SOURCES + n]);
        }
        mark(latestOf(decided[statements[k]], k));
      }
    }

    private void mark(int k) {
      if (k >= 0) {
        marked[k] = true;
      }
    }

    /** The latest STEP ahead of k whose STATEMENT is in a set, or -1. */
    private int latestOf(long set, int k) {
      for (int j = k - 1; j >= 0; j--) {
        if (Bits.holds(set, statements[j])) {
          return j;
        }
      }
      return -1;
    }

    long markedStatements() {
      long all = 0;
      for (int k = 0; k < size; k++) {
        all |= marked[k] ? Bits.one(statements[k]) : 0;
      }
      return all;
    }
  }
}
