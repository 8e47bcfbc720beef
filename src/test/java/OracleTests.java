import java.util.ArrayList;
import java.util.Arrays;
import java.util.HashSet;
import java.util.LinkedHashSet;
import java.util.List;
import java.util.Set;
import java.util.TreeSet;

/**
 * Makes up runs of calls by a fixed rule and compares each answer with that of Oracle, a second
 * reading of the document that keeps close to its words and shares nothing with the class.
 */
public final class OracleTests {
  private static final int RUNS = 300;
  private static final int DEEP_RUNS = 300;
  private static final int CALLS = 500;

  private static int wrong = 0;
  private static long calls = 0;
  private static long seed;

  private static int pick(int bound) {
    seed = seed * 6364136223846793005L + 1442695040888963407L;
    return (int) ((seed >>> 33) % bound);
  }

  public static void main(String[] args) {
    for (int run = 0; run < RUNS && wrong < 20; run++) {
      seed = run * 7919L + 17;
      oneRun(run);
    }
    for (int run = 0; run < DEEP_RUNS && wrong < 20; run++) {
      seed = run * 104729L + 5;
      deepRun(RUNS + run);
    }
    System.out.println(calls + " calls compared, " + wrong + " answers are not as due");
    if (wrong != 0) {
      System.exit(1);
    }
  }

  private static void due(int run, String call, int got, int want) {
    calls++;
    if (got != want && wrong++ < 20) {
      System.out.println("run " + run + ": " + call + " answered " + got + ", due is " + want);
    }
  }

  private static void oneRun(int run) {
    Relay loom = new Relay();
    Oracle oracle = new Oracle();
    int style = pick(4);
    for (int n = 0; n < CALLS; n++) {
      if (n < 3 || oracle.programs.isEmpty()) {
        due(run, "program()", loom.program(), oracle.program());
      } else if (pick(100) < 45) {
        oneLine(run, loom, oracle, style);
      } else {
        oneQuestion(run, loom, oracle, pick(27));
      }
    }
  }

  /** One WHOLE program, of which everything is asked. */
  private static void deepRun(int run) {
    Relay loom = new Relay();
    Oracle oracle = new Oracle();
    due(run, "program()", loom.program(), oracle.program());
    part(run, loom, oracle, 5 + pick(40), 0, 0);
    boolean filled = pick(6) == 0;
    for (int n = 0; n < 80 && filled; n++) {
      int kind = pick(3);
      put(run, loom, oracle, kind, anyX(kind), anyExpression());
    }
    due(run, "whole(0)", loom.whole(0), 1);
    for (int name = 0; name < 4; name++) {
      int v = pick(7) - 2;
      due(run, "start", loom.start(name, v), oracle.start(name, v));
    }
    int size = oracle.programs.get(0).size();
    for (int s = -1; s <= size; s++) {
      askAllOf(run, loom, oracle, s, size);
    }
    askRun(run, loom, oracle, pick(2) == 0 ? 500 : pick(60));
    for (int n = 0; n < 14; n++) {
      oneCut(run, loom, oracle, 0, pick(size), 700);
    }
  }

  private static void part(int run, Relay loom, Oracle oracle, int most, int depth, int whiles) {
    int length = 1 + pick(depth == 0 ? 30 : 5);
    for (int n = 0; n < length && oracle.programs.get(0).size() < most; n++) {
      int shape = pick(20);
      if (shape < 4 && depth < 6) {
        put(run, loom, oracle, 3, 0, anyExpression());
        part(run, loom, oracle, most, depth + 1, whiles);
        if (pick(2) == 0) {
          put(run, loom, oracle, 4, 0, 0);
          part(run, loom, oracle, most, depth + 1, whiles);
        }
        put(run, loom, oracle, 6, 0, 0);
      } else if (shape < 8 && depth < 6) {
        put(run, loom, oracle, 5, 0, anyExpression());
        part(run, loom, oracle, most, depth + 1, whiles + 1);
        put(run, loom, oracle, 6, 0, 0);
      } else if (shape < 10 && whiles > 0) {
        put(run, loom, oracle, 7, 1 + pick(whiles), 0);
      } else if (shape == 10 && pick(3) == 0) {
        put(run, loom, oracle, 8, 0, 0);
      } else {
        int kind = shape < 16 ? 0 : shape < 18 ? 1 : 2;
        put(run, loom, oracle, kind, anyX(kind), anyExpression());
      }
    }
  }

  private static void put(int run, Relay loom, Oracle oracle, int kind, int x, int e) {
    int made = oracle.line(0, kind, x, e);
    due(run, "line(0, " + kind + ", " + x + ", " + e + ")", loom.line(0, kind, x, e), made);
    if (made < 0 && (kind == 3 || kind == 5)) {
      put(run, loom, oracle, kind, 0, 256 * pick(4));
    }
  }

  private static void askAllOf(int run, Relay loom, Oracle oracle, int s, int size) {
    for (int what = -1; what < 6; what++) {
      due(run, "of(0, " + s + ", " + what + ")", loom.of(0, s, what), oracle.of(0, s, what));
    }
    due(run, "slice(0, " + s + ")", loom.slice(0, s), oracle.slice(0, s));
    askAtHand(run, loom, oracle);
    due(run, "onward(0, " + s + ")", loom.onward(0, s), oracle.onward(0, s));
    askAtHand(run, loom, oracle);
    for (int t = -1; t <= size; t++) {
      String about = "(0, " + s + ", " + t + ")";
      due(run, "hangs" + about, loom.hangs(0, s, t), oracle.hangs(0, s, t));
      due(run, "far" + about, loom.far(0, s, t), oracle.far(0, s, t));
    }
    int t = pick(size);
    due(run, "between(0, " + s + ", " + t + ")", loom.between(0, s, t), oracle.between(0, s, t));
    askAtHand(run, loom, oracle);
    due(run, "used(0)", loom.used(0), oracle.used(0));
    askAtHand(run, loom, oracle);
    due(run, "never(0)", loom.never(0), oracle.never(0));
    askAtHand(run, loom, oracle);
  }

  private static void askAtHand(int run, Relay loom, Oracle oracle) {
    for (int p = -1; p < 61; p++) {
      due(run, "has(" + p + ")", loom.has(p), oracle.has(p));
    }
  }

  private static void askRun(int run, Relay loom, Oracle oracle, int fuel) {
    due(run, "run(0, " + fuel + ")", loom.run(0, fuel), oracle.run(0, fuel));
    for (int what = -1; what < 5; what++) {
      due(run, "ran(" + what + ")", loom.ran(what), oracle.ran(what));
    }
    for (int i = -1; i < 302; i++) {
      due(run, "told(" + i + ")", loom.told(i), oracle.told(i));
    }
    for (int name = -1; name < 9; name++) {
      due(run, "value(" + name + ")", loom.value(name), oracle.value(name));
      for (int i = -1; i < 5; i++) {
        due(run, "place(" + name + ", " + i + ")", loom.place(name, i), oracle.place(name, i));
      }
    }
    int size = oracle.count(2);
    for (int i = -1; i <= size; i++) {
      due(run, "step(" + i + ")", loom.step(i), oracle.step(i));
      if (i % 5 == 0 || i < 30 || i > size - 5) {
        due(run, "trace(" + i + ")", loom.trace(i), oracle.trace(i));
        askAtHand(run, loom, oracle);
        int j = pick(size + 1) - (pick(9) == 0 ? 1 : 0);
        due(run, "traced(" + i + ", " + j + ")", loom.traced(i, j), oracle.traced(i, j));
      }
    }
  }

  private static int anyProgram(Oracle oracle) {
    return pick(25) == 0 ? pick(20) - 2 : pick(oracle.programs.size());
  }

  private static int anyLine(Oracle oracle, int program) {
    int size = program >= 0 && program < oracle.programs.size() ? oracle.programs.get(program).size() : 3;
    return pick(30) == 0 || size == 0 ? pick(70) - 3 : pick(size);
  }

  private static int anyOperand() {
    int shape = pick(40);
    if (shape == 0) {
      return pick(256);
    }
    return shape < 24 ? pick(4) : 147 + pick(7);
  }

  private static int anyExpression() {
    if (pick(60) == 0) {
      return pick(700000) - 1000;
    }
    int sort = pick(9);
    int a = sort == 8 ? pick(3) : anyOperand();
    int b = sort == 0 ? 0 : anyOperand();
    if (sort == 8 && pick(3) > 0) {
      b = 150 + pick(4);
    }
    return 65536 * sort + 256 * a + b;
  }

  private static int anyX(int kind) {
    if (pick(60) == 0) {
      return pick(1000) - 10;
    }
    switch (kind) {
      case 0:
        return pick(4);
      case 1:
        return pick(3) + 4 * (pick(3) > 0 ? 150 + pick(4) : anyOperand());
      case 7:
        return 1 + pick(2);
      default:
        return 0;
    }
  }

  private static int anyKind(int style) {
    int[][] weights = {
      {0, 0, 0, 1, 2, 3, 4, 5, 6, 6, 6, 7, 8},
      {0, 1, 2, 3, 3, 5, 5, 6, 6, 4, 7, 7, 7},
      {0, 0, 0, 0, 1, 1, 2, 3, 5, 6, 6, 4, 7},
      {3, 4, 5, 6, 7, 8, 3, 5, 6, 4, 0, 2, 6},
    };
    return pick(100) == 0 ? pick(14) - 2 : weights[style][pick(13)];
  }

  private static void oneLine(int run, Relay loom, Oracle oracle, int style) {
    int program = anyProgram(oracle);
    int kind = anyKind(style);
    int x = anyX(kind);
    int e = kind == 4 || kind >= 6 ? (pick(50) == 0 ? 1 : 0) : anyExpression();
    String call = "line(" + program + ", " + kind + ", " + x + ", " + e + ")";
    due(run, call, loom.line(program, kind, x, e), oracle.line(program, kind, x, e));
  }

  private static void oneQuestion(int run, Relay loom, Oracle oracle, int which) {
    int program = anyProgram(oracle);
    int s = anyLine(oracle, program);
    int t = anyLine(oracle, program);
    int what = pick(7) - 1;
    int step = pick(3) == 0 ? pick(420) - 5 : pick(30);
    int fuel = pick(20) == 0 ? pick(30000) - 5000 : pick(600);
    String about = "(" + program + ", " + s + ", " + t + ")";
    switch (which) {
      case 0: due(run, "program()", pick(4) > 0 ? 0 : loom.program() - oracle.program(), 0); break;
      case 1: due(run, "of" + about + what, loom.of(program, s, what), oracle.of(program, s, what)); break;
      case 2: due(run, "whole" + about, loom.whole(program), oracle.whole(program)); break;
      case 3: {
        int name = pick(10) - 1;
        int v = pick(5) == 0 ? Integer.MIN_VALUE : pick(9) - 4;
        due(run, "start(" + name + ", " + v + ")", loom.start(name, v), oracle.start(name, v));
        break;
      }
      case 4: case 5: case 24: case 25: {
        due(run, "run(" + program + ", " + fuel + ")", loom.run(program, fuel), oracle.run(program, fuel));
        afterRun(run, loom, oracle);
        break;
      }
      case 6: due(run, "ran(" + what + ")", loom.ran(what), oracle.ran(what)); break;
      case 7: due(run, "told(" + step + ")", loom.told(step), oracle.told(step)); break;
      case 8: due(run, "value(" + what + ")", loom.value(what), oracle.value(what)); break;
      case 9: due(run, "place(" + what + ")", loom.place(what, t), oracle.place(what, t)); break;
      case 10: case 26: due(run, "hangs" + about, loom.hangs(program, s, t), oracle.hangs(program, s, t)); break;
      case 11: due(run, "slice" + about, loom.slice(program, s), oracle.slice(program, s)); break;
      case 12: due(run, "onward" + about, loom.onward(program, t), oracle.onward(program, t)); break;
      case 13: due(run, "between" + about, loom.between(program, s, t), oracle.between(program, s, t)); break;
      case 14: due(run, "used" + about, loom.used(program), oracle.used(program)); break;
      case 15: due(run, "never" + about, loom.never(program), oracle.never(program)); break;
      case 16: due(run, "has" + s, loom.has(s), oracle.has(s)); break;
      case 17: due(run, "far" + about, loom.far(program, s, t), oracle.far(program, s, t)); break;
      case 18: oneCut(run, loom, oracle, program, s, fuel); break;
      case 19: due(run, "became" + s, loom.became(s), oracle.became(s)); break;
      case 20: {
        int other = anyProgram(oracle);
        due(run, "same" + program + " " + other, loom.same(program, other), oracle.same(program, other));
        break;
      }
      case 21: {
        int other = anyProgram(oracle);
        int q = anyLine(oracle, other);
        String call = "beside(" + program + ", " + s + ", " + other + ", " + q + ", " + fuel + ")";
        due(run, call, loom.beside(program, s, other, q, fuel), oracle.beside(program, s, other, q, fuel));
        afterRun(run, loom, oracle);
        break;
      }
      case 22: due(run, "step" + step, loom.step(step), oracle.step(step)); break;
      case 23: due(run, "trace(" + step + ")", loom.trace(step), oracle.trace(step)); break;
      default: break;
    }
    due(run, "count(" + what + ")", loom.count(what), oracle.count(what));
    for (int p = -1; p < 61; p++) {
      due(run, "has(" + p + ") behind question " + which + about, loom.has(p), oracle.has(p));
    }
  }

  private static void afterRun(int run, Relay loom, Oracle oracle) {
    for (int what = -1; what < 5; what++) {
      due(run, "ran(" + what + ")", loom.ran(what), oracle.ran(what));
    }
    int size = oracle.count(2);
    for (int n = 0; n < 6; n++) {
      int i = size == 0 ? 0 : size - 1 - pick(Math.min(size, 40));
      int j = size == 0 ? 0 : pick(size);
      due(run, "step(" + i + ")", loom.step(i), oracle.step(i));
      due(run, "trace(" + i + ")", loom.trace(i), oracle.trace(i));
      due(run, "traced(" + i + ", " + j + ")", loom.traced(i, j), oracle.traced(i, j));
    }
  }

  private static void oneCut(int run, Relay loom, Oracle oracle, int program, int s, int fuel) {
    int made = oracle.cut(program, s);
    due(run, "cut(" + program + ", " + s + ")", loom.cut(program, s), made);
    for (int p = -1; p < 61; p++) {
      due(run, "became(" + p + ")", loom.became(p), oracle.became(p));
    }
    if (made < 0) {
      return;
    }
    for (int p = 0; p < oracle.programs.get(made).size(); p++) {
      for (int what = 0; what < 5; what++) {
        due(run, "of a cut", loom.of(made, p, what), oracle.of(made, p, what));
      }
    }
    int q = oracle.became(s);
    int answer = loom.beside(program, s, made, q, fuel);
    due(run, "beside of a cut", answer, oracle.beside(program, s, made, q, fuel));
    boolean keepsUp = fuel < 0 || fuel > 20000 ? answer == -2 : answer == 0 || answer == 1;
    due(run, "a cut does there what the program did", keepsUp ? 1 : 0, 1);
  }

  /** The document, read once more with no care for speed. */
  private static final class Oracle {
    static final int END = -1;
    final List<List<int[]>> programs = new ArrayList<>();
    final int[] startTells = new int[8];
    Set<Integer> atHand = new HashSet<>();
    int[] cutNumbers = new int[0];
    /** Of the latest RUN. */
    int latest = -1;
    int outcome;
    int stopped;
    int[] names = new int[8];
    int[][] rows = new int[3][4];
    List<Integer> tellings = new ArrayList<>();
    List<int[]> steps = new ArrayList<>();
    int recorded;

    boolean isProgram(int g) {
      return g >= 0 && g < programs.size();
    }

    int program() {
      if (programs.size() == 16) return -2;
      programs.add(new ArrayList<>());
      return programs.size() - 1;
    }

    static boolean operand(int o) {
      return o >= 0 && o <= 7 || o >= 100 && o <= 200;
    }

    static boolean expression(int e) {
      for (int sort = 0; sort <= 8; sort++) {
        int left = e - 65536 * sort;
        if (left < 0 || left >= 65536) continue;
        int a = left / 256;
        int b = left % 256;
        if (sort == 0) return operand(a) && b == 0;
        if (sort == 8) return a <= 2 && operand(b);
        return operand(a) && operand(b);
      }
      return false;
    }

    /** The parts that began ahead of LINE p and have no CLOSE ahead of it, outermost first. */
    static List<Integer> parts(List<int[]> g, int p) {
      List<Integer> open = new ArrayList<>();
      for (int i = 0; i < p; i++) {
        if (g.get(i)[0] == 3 || g.get(i)[0] == 5) open.add(i);
        if (g.get(i)[0] == 6) open.remove(open.size() - 1);
      }
      return open;
    }

    static boolean whole(List<int[]> g) {
      return parts(g, g.size()).isEmpty();
    }

    int line(int program, int kind, int x, int e) {
      if (!isProgram(program) || programs.get(program).size() == 60 || kind < 0 || kind > 8) return -2;
      List<int[]> g = programs.get(program);
      List<Integer> open = parts(g, g.size());
      boolean named = Arrays.asList(0, 1, 2, 3, 5).contains(kind);
      if (named ? !expression(e) : e != 0) return -2;
      int whiles = 0;
      for (int p : open) if (g.get(p)[0] == 5) whiles++;
      if (kind == 0 && (x < 0 || x > 7)) return -2;
      if (kind == 1 && (x < 0 || x % 4 == 3 || !operand(x / 4))) return -2;
      if (kind == 7 && (x < 1 || x > whiles)) return -2;
      if (kind != 0 && kind != 1 && kind != 7 && x != 0) return -2;
      if ((kind == 3 || kind == 5) && open.size() == 12) return -2;
      if ((kind == 4 || kind == 6) && open.isEmpty()) return -2;
      if (kind == 4) {
        int last = open.get(open.size() - 1);
        if (g.get(last)[0] != 3 || elseOf(g, last) >= 0) return -2;
      }
      g.add(new int[] {kind, x, e});
      if (program == latest) recorded = 0;
      return g.size() - 1;
    }

    static int closeOf(List<int[]> g, int begin) {
      for (int i = begin + 1; i < g.size(); i++) {
        if (g.get(i)[0] == 6 && last(parts(g, i)) == begin) return i;
      }
      return -1;
    }

    static int elseOf(List<int[]> g, int begin) {
      for (int i = begin + 1; i < g.size(); i++) {
        if (g.get(i)[0] == 4 && last(parts(g, i)) == begin) return i;
      }
      return -1;
    }

    static int last(List<Integer> list) {
      return list.get(list.size() - 1);
    }

    static int behind(List<int[]> g, int p) {
      int q = p + 1;
      if (q >= g.size()) return END;
      if (g.get(q)[0] != 4 && g.get(q)[0] != 6) return q;
      int part = last(parts(g, q));
      if (g.get(q)[0] == 4) return behind(g, closeOf(g, part));
      return g.get(part)[0] == 5 ? part : behind(g, q);
    }

    static List<Integer> ways(List<int[]> g, int p, boolean loosely) {
      List<Integer> ways = new ArrayList<>();
      switch (g.get(p)[0]) {
        case 3: {
          ways.add(behind(g, p));
          int middle = elseOf(g, p);
          ways.add(behind(g, middle >= 0 ? middle : closeOf(g, p)));
          break;
        }
        case 5:
          ways.add(behind(g, p));
          ways.add(behind(g, closeOf(g, p)));
          break;
        case 7: {
          List<Integer> whiles = new ArrayList<>();
          for (int part : parts(g, p)) if (g.get(part)[0] == 5) whiles.add(0, part);
          ways.add(behind(g, closeOf(g, whiles.get(g.get(p)[1] - 1))));
          if (loosely) ways.add(behind(g, p));
          break;
        }
        case 8:
          ways.add(END);
          if (loosely) ways.add(behind(g, p));
          break;
        default:
          ways.add(behind(g, p));
      }
      return ways;
    }

    int of(int program, int p, int what) {
      if (!isProgram(program)) return -2000000000;
      List<int[]> g = programs.get(program);
      if (p < 0 || p >= g.size() || what < 0 || what > 4) return -2000000000;
      if (what < 3) return g.get(p)[what];
      if (what == 4) return parts(g, p).size();
      return whole(g) ? behind(g, p) : -1;
    }

    int whole(int program) {
      return !isProgram(program) ? -2 : whole(programs.get(program)) ? 1 : 0;
    }

    int start(int name, int v) {
      if (name < 0 || name > 7) return -2000000000;
      int was = startTells[name];
      startTells[name] = v;
      return was;
    }

    int run(int program, int fuel) {
      if (whole(program) != 1 || fuel < 0 || fuel > 20000) return -2;
      doRun(program, fuel, -1);
      return outcome;
    }

    private int known(int operand) {
      return operand < 100 ? names[operand] : operand - 150;
    }

    /** What e comes to, or null when it is REFUSED. */
    private Integer work(int e) {
      int sort = e / 65536;
      int a = e / 256 % 256;
      int b = e % 256;
      if (sort == 8) {
        int at = known(b);
        return at >= 0 && at <= 3 ? rows[a][at] : null;
      }
      long left = known(a);
      long right = known(b);
      switch (sort) {
        case 0: return (int) left;
        case 1: return (int) (left + right);
        case 2: return (int) (left - right);
        case 3: return (int) (left * right);
        case 4: return right == 0 ? null : (int) (left / right);
        case 5: return right == 0 ? null : (int) (left % right);
        case 6: return left < right ? 1 : 0;
        default: return left == right ? 1 : 0;
      }
    }

    /** Runs, and answers the numbers that e of one LINE came to. */
    private List<Integer> doRun(int program, int fuel, int watched) {
      List<int[]> g = programs.get(program);
      List<List<Integer>> ways = new ArrayList<>();
      for (int p = 0; p < g.size(); p++) ways.add(statement(program, p) ? ways(g, p, false) : List.of());
      List<Integer> seen = new ArrayList<>();
      names = startTells.clone();
      rows = new int[3][4];
      tellings = new ArrayList<>();
      steps = new ArrayList<>();
      latest = program;
      int at = behind(g, -1);
      outcome = 0;
      while (at != END) {
        if (steps.size() == fuel) {
          outcome = 2;
          break;
        }
        int[] l = g.get(at);
        Integer number = l[0] >= 7 ? Integer.valueOf(0) : work(l[2]);
        int cellRead = -1;
        if (l[0] < 7 && l[2] / 65536 == 8 && known(l[2] % 256) >= 0 && known(l[2] % 256) <= 3) {
          cellRead = l[2] / 256 % 256 * 10 + known(l[2] % 256);
        }
        int place = l[0] == 1 ? known(l[1] / 4) : 0;
        boolean bad = number == null || place < 0 || place > 3;
        steps.add(new int[] {at, cellRead, l[0] == 0 && !bad ? l[1] : -1, l[0] == 1 && !bad ? l[1] % 4 * 10 + place : -1});
        if (bad) {
          outcome = 1;
          break;
        }
        if (at == watched) seen.add(number);
        if (l[0] == 0) names[l[1]] = number;
        if (l[0] == 1) rows[l[1] % 4][place] = number;
        if (l[0] == 2) tellings.add(number);
        List<Integer> next = ways.get(at);
        at = next.size() == 2 && number == 0 ? next.get(1) : next.get(0);
      }
      stopped = at;
      recorded = Math.min(400, steps.size());
      return seen;
    }

    int ran(int what) {
      if (latest < 0) return -1;
      int[] answers = {steps.size(), stopped, tellings.size(), latest};
      return what >= 0 && what < 4 ? answers[what] : -2;
    }

    int told(int i) {
      return i >= 0 && i < 300 && i < tellings.size() ? tellings.get(i) : 0;
    }

    int value(int name) {
      return name >= 0 && name < 8 && latest >= 0 ? names[name] : 0;
    }

    int place(int row, int i) {
      return row >= 0 && row < 3 && i >= 0 && i < 4 && latest >= 0 ? rows[row][i] : 0;
    }

    boolean statement(int program, int p) {
      List<int[]> g = programs.get(program);
      return p >= 0 && p < g.size() && g.get(p)[0] != 4 && g.get(p)[0] != 6;
    }

    static Set<Integer> namesRead(int[] l) {
      Set<Integer> read = new TreeSet<>();
      if (l[0] == 4 || l[0] > 5) return read;
      int sort = l[2] / 65536;
      if (sort != 8 && l[2] / 256 % 256 < 8) read.add(l[2] / 256 % 256);
      if (sort != 0 && l[2] % 256 < 8) read.add(l[2] % 256);
      if (l[0] == 1 && l[1] / 4 < 8) read.add(l[1] / 4);
      return read;
    }

    /** Whether a row of WAYS, one at least, leads from one to another with none of a set between. */
    static boolean leads(List<int[]> g, int from, int to, Set<Integer> barred, boolean loosely) {
      Set<Integer> seen = new LinkedHashSet<>(ways(g, from, loosely));
      List<Integer> todo = new ArrayList<>(seen);
      for (int n = 0; n < todo.size(); n++) {
        int at = todo.get(n);
        if (at == to) return true;
        if (at == END || barred.contains(at)) continue;
        for (int next : ways(g, at, loosely)) if (seen.add(next)) todo.add(next);
      }
      return false;
    }

    static boolean readOn(List<int[]> g, int s, int t) {
      int[] l = g.get(t);
      if (l[0] == 0) {
        if (!namesRead(g.get(s)).contains(l[1])) return false;
        Set<Integer> setters = new HashSet<>();
        for (int p = 0; p < g.size(); p++) if (g.get(p)[0] == 0 && g.get(p)[1] == l[1]) setters.add(p);
        return leads(g, t, s, setters, false);
      }
      if (l[0] != 1) return false;
      int[] reader = g.get(s);
      if (reader[0] >= 7 || reader[2] / 65536 != 8 || reader[2] / 256 % 256 != l[1] % 4) return false;
      int read = reader[2] % 256;
      int stored = l[1] / 4;
      if (read >= 100 && stored >= 100 && read != stored) return false;
      return leads(g, t, s, Set.of(), false);
    }

    /** Whether s is on each row of LOOSE WAYS from v to the END. */
    static boolean onEach(List<int[]> g, int s, int v) {
      if (s == v) return true;
      return v != END && !leads(g, v, END, Set.of(s), true);
    }

    static boolean decided(List<int[]> g, int s, int d) {
      int kind = g.get(d)[0];
      if (kind != 3 && kind != 5 && kind != 7 && kind != 8) return false;
      if (s != d && onEach(g, s, d)) return false;
      for (int v : ways(g, d, true)) if (onEach(g, s, v)) return true;
      return false;
    }

    int hangs(int program, int s, int t) {
      if (whole(program) != 1 || !statement(program, s) || !statement(program, t)) return -2;
      List<int[]> g = programs.get(program);
      return (readOn(g, s, t) ? 1 : 0) + (decided(g, s, t) ? 2 : 0);
    }

    int hangsProgram = -1;
    int hangsSize = -1;
    boolean[][] hangsTable;

    private boolean[][] table(int program) {
      List<int[]> g = programs.get(program);
      if (hangsProgram == program && hangsSize == g.size()) return hangsTable;
      hangsProgram = program;
      hangsSize = g.size();
      hangsTable = new boolean[g.size()][g.size()];
      for (int s = 0; s < g.size(); s++) {
        for (int t = 0; t < g.size(); t++) hangsTable[s][t] = hangs(program, s, t) > 0;
      }
      return hangsTable;
    }

    int far(int program, int s, int t) {
      if (hangs(program, s, t) == -2) return -2;
      boolean[][] table = table(program);
      int[] far = new int[table.length];
      Arrays.fill(far, -1);
      far[s] = 0;
      List<Integer> todo = new ArrayList<>(List.of(s));
      for (int n = 0; n < todo.size(); n++) {
        for (int p = 0; p < table.length; p++) {
          if (table[todo.get(n)][p] && far[p] < 0) {
            far[p] = far[todo.get(n)] + 1;
            todo.add(p);
          }
        }
      }
      return far[t];
    }

    private boolean inSlice(int program, int s, int t) {
      return far(program, s, t) >= 0;
    }

    private int hand(Set<Integer> set) {
      atHand = set;
      return set.size();
    }

    int slice(int program, int s) {
      if (hangs(program, s, s) == -2) return -2;
      Set<Integer> set = new HashSet<>();
      for (int p = 0; p < 60; p++) if (inSlice(program, s, p)) set.add(p);
      return hand(set);
    }

    int onward(int program, int t) {
      if (hangs(program, t, t) == -2) return -2;
      Set<Integer> set = new HashSet<>();
      for (int p = 0; p < 60; p++) if (inSlice(program, p, t)) set.add(p);
      return hand(set);
    }

    int between(int program, int s, int t) {
      if (hangs(program, s, t) == -2) return -2;
      Set<Integer> set = new HashSet<>();
      for (int p = 0; p < 60; p++) if (inSlice(program, s, p) && inSlice(program, p, t)) set.add(p);
      return hand(set);
    }

    int used(int program) {
      if (whole(program) != 1) return -2;
      Set<Integer> set = new HashSet<>();
      List<int[]> g = programs.get(program);
      for (int s = 0; s < g.size(); s++) {
        if (g.get(s)[0] != 2) continue;
        for (int p = 0; p < g.size(); p++) if (inSlice(program, s, p)) set.add(p);
      }
      return hand(set);
    }

    int never(int program) {
      if (whole(program) != 1) return -2;
      Set<Integer> set = new HashSet<>();
      List<int[]> g = programs.get(program);
      int begin = behind(g, -1);
      for (int p = 0; p < g.size(); p++) {
        if (statement(program, p) && p != begin && !leads(g, begin, p, Set.of(), false)) set.add(p);
      }
      return hand(set);
    }

    int has(int p) {
      return atHand.contains(p) ? 1 : 0;
    }

    int cut(int program, int s) {
      if (hangs(program, s, s) == -2 || programs.size() == 16) return -2;
      List<int[]> g = programs.get(program);
      List<int[]> made = new ArrayList<>();
      cutNumbers = new int[g.size()];
      for (int p = 0; p < g.size(); p++) {
        int[] l = g.get(p).clone();
        int keeper = statement(program, p) ? p : last(parts(g, p));
        cutNumbers[p] = -1;
        if (!inSlice(program, s, keeper)) continue;
        if (l[0] == 7) {
          int kept = 0;
          int left = 0;
          List<Integer> parts = parts(g, p);
          for (int i = parts.size() - 1; i >= 0 && left < l[1]; i--) {
            if (g.get(parts.get(i))[0] != 5) continue;
            left++;
            if (inSlice(program, s, parts.get(i))) kept++;
          }
          l[1] = kept;
        }
        cutNumbers[p] = made.size();
        made.add(l);
      }
      programs.add(made);
      return programs.size() - 1;
    }

    int became(int p) {
      return p >= 0 && p < cutNumbers.length ? cutNumbers[p] : -1;
    }

    int same(int a, int b) {
      if (!isProgram(a) || !isProgram(b)) return -2;
      return Arrays.deepEquals(programs.get(a).toArray(), programs.get(b).toArray()) ? 1 : 0;
    }

    int beside(int a, int p, int b, int q, int fuel) {
      if (whole(a) != 1 || whole(b) != 1 || !statement(a, p) || !statement(b, q)) return -2;
      if (fuel < 0 || fuel > 20000) return -2;
      List<Integer> left = doRun(a, fuel, p);
      List<Integer> right = doRun(b, fuel, q);
      if (left.equals(right)) return 0;
      int least = Math.min(left.size(), right.size());
      if (!left.subList(0, least).equals(right.subList(0, least))) return 3;
      return left.size() < right.size() ? 1 : 2;
    }

    int step(int i) {
      return i >= 0 && i < recorded ? steps.get(i)[0] : -1;
    }

    private Set<Integer> traceOf(int i) {
      List<int[]> g = programs.get(latest);
      boolean[] in = new boolean[400];
      in[i] = true;
      boolean grows = true;
      while (grows) {
        grows = false;
        for (int k = i; k >= 0; k--) {
          if (!in[k]) continue;
          for (int j : stepHangsOn(g, k)) {
            grows |= !in[j];
            in[j] = true;
          }
        }
      }
      Set<Integer> all = new TreeSet<>();
      for (int k = 0; k < 400; k++) if (in[k]) all.add(k);
      return all;
    }

    int decidedProgram = -1;
    int decidedSize = -1;
    boolean[][] decidedTable;

    private boolean isDecided(List<int[]> g, int s, int d) {
      if (decidedProgram != latest || decidedSize != g.size()) {
        decidedProgram = latest;
        decidedSize = g.size();
        decidedTable = new boolean[g.size()][g.size()];
        for (int i = 0; i < g.size(); i++) {
          for (int j = 0; j < g.size(); j++) {
            decidedTable[i][j] = statement(latest, i) && statement(latest, j) && decided(g, i, j);
          }
        }
      }
      return decidedTable[s][d];
    }

    private Set<Integer> stepHangsOn(List<int[]> g, int k) {
      Set<Integer> on = new TreeSet<>();
      int s = steps.get(k)[0];
      for (int name : namesRead(g.get(s))) {
        for (int j = k - 1; j >= 0; j--) {
          if (steps.get(j)[2] == name) {
            on.add(j);
            break;
          }
        }
      }
      for (int j = k - 1; j >= 0 && steps.get(k)[1] >= 0; j--) {
        if (steps.get(j)[3] == steps.get(k)[1]) {
          on.add(j);
          break;
        }
      }
      for (int j = k - 1; j >= 0; j--) {
        if (isDecided(g, s, steps.get(j)[0])) {
          on.add(j);
          break;
        }
      }
      return on;
    }

    int trace(int i) {
      if (i < 0 || i >= recorded) return -2;
      Set<Integer> set = new HashSet<>();
      for (int k : traceOf(i)) set.add(steps.get(k)[0]);
      return hand(set);
    }

    int traced(int i, int j) {
      if (i < 0 || i >= recorded || j < 0 || j >= recorded) return -2;
      return traceOf(i).contains(j) ? 1 : 0;
    }

    int count(int what) {
      int lines = 0;
      for (List<int[]> g : programs) lines += g.size();
      int[] answers = {programs.size(), lines, recorded, atHand.size()};
      return what >= 0 && what < 4 ? answers[what] : -2;
    }
  }
}
