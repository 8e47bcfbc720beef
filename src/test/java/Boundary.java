/**
 * What the tests of boundary cases share: the words of the document, small programs, and the
 * sentence of the document that is being tested. A wrong answer is printed with the sentence that
 * it breaks.
 */
abstract class Boundary {
  static final int SET = 0;
  static final int STORE = 1;
  static final int TELL = 2;
  static final int IF = 3;
  static final int ELSE = 4;
  static final int WHILE = 5;
  static final int CLOSE = 6;
  static final int LEAVE = 7;
  static final int GIVE = 8;
  static final int NOTHING = -2000000000;
  static final int MIN = Integer.MIN_VALUE;
  static final int MAX = Integer.MAX_VALUE;

  private static int wrong = 0;
  private static int asked = 0;
  private static int sentences = 0;
  private static String sentence = "";

  /** Tells how it went; ends with exit code 1 if an answer was wrong. */
  static void report() {
    System.out.println(sentences + " sentences, " + asked + " answers asked for, " + wrong + " not as due");
    if (wrong != 0) {
      System.exit(1);
    }
  }

  /** Names the sentence that is tested from here on, in the document's own words. */
  static void sentence(String where, String words) {
    sentences++;
    sentence = where + ", '" + words + "'";
  }

  static void is(String call, int got, int want) {
    asked++;
    if (got != want) {
      wrong++;
      System.out.println(sentence + ": " + call + " answered " + got + ", due is " + want);
    }
  }

  static int e(int sort, int a, int b) {
    return 65536 * sort + 256 * a + b;
  }

  static int name(int name) {
    return e(0, name, 0);
  }

  static int number(int number) {
    return e(0, 150 + number, 0);
  }

  /** x of a STORE. */
  static int at(int row, int operand) {
    return row + 4 * operand;
  }

  /** A loom with one program of these LINES, each told as KIND, x, e. */
  static SliceLoom loom(int... lines) {
    SliceLoom x = new SliceLoom();
    add(x, lines);
    return x;
  }

  /** One program more, of these LINES; its number. */
  static int add(SliceLoom x, int... lines) {
    int program = x.program();
    lines(x, program, lines);
    return program;
  }

  /** These LINES more. None of them may be refused. */
  static void lines(SliceLoom x, int program, int... lines) {
    for (int i = 0; i + 2 < lines.length; i += 3) {
      int made = x.line(program, lines[i], lines[i + 1], lines[i + 2]);
      is("whether LINE " + i / 3 + " of the test's program is taken", made >= 0 ? 1 : 0, 1);
    }
  }

  static void many(SliceLoom x, int program, int times, int kind, int v, int e) {
    for (int i = 0; i < times; i++) {
      lines(x, program, kind, v, e);
    }
  }

  /** Whether a LINE is taken as the first of a new program. */
  static void fits(int kind, int x, int e, boolean want) {
    SliceLoom loom = new SliceLoom();
    loom.program();
    is("line(0, " + kind + ", " + x + ", " + e + ")", loom.line(0, kind, x, e), want ? 0 : -2);
    is("count(1) then", loom.count(1), want ? 1 : 0);
  }

  /** Whether the RECORD has just these STATEMENTS. */
  static void steps(SliceLoom x, int... want) {
    is("count(2)", x.count(2), want.length);
    for (int i = 0; i < want.length; i++) {
      is("step(" + i + ")", x.step(i), want[i]);
    }
    is("step(" + want.length + ")", x.step(want.length), -1);
  }

  /** Whether just these numbers were told. */
  static void tellings(SliceLoom x, int... want) {
    is("ran(2)", x.ran(2), want.length);
    for (int i = 0; i < want.length; i++) {
      is("told(" + i + ")", x.told(i), want[i]);
    }
    is("told(" + want.length + ")", x.told(want.length), 0);
  }

  /** Whether the SET AT HAND has just these LINES. */
  static void atHand(SliceLoom x, int... lines) {
    long want = 0;
    for (int p : lines) {
      want |= 1L << p;
    }
    for (int p = 0; p < 60; p++) {
      is("has(" + p + ")", x.has(p), (int) (want >>> p & 1));
    }
    is("count(3)", x.count(3), lines.length);
  }

  /** Whether the TRACE of STEP i has just these STEPS, and the SET AT HAND their STATEMENTS. */
  static void traceIs(SliceLoom x, int i, int... steps) {
    long want = 0;
    long statements = 0;
    for (int j : steps) {
      want |= 1L << j;
      statements |= 1L << x.step(j);
    }
    int size = x.count(2);
    for (int j = 0; j < size; j++) {
      is("traced(" + i + ", " + j + ")", x.traced(i, j), (int) (want >>> j & 1));
    }
    is("trace(" + i + ")", x.trace(i), Long.bitCount(statements));
    for (int p = 0; p < 16; p++) {
      is("has(" + p + ") behind trace(" + i + ")", x.has(p), (int) (statements >>> p & 1));
    }
    is("count(3) behind trace(" + i + ")", x.count(3), Long.bitCount(statements));
  }

  /** Whether a program has just these LINES. */
  static void linesAre(SliceLoom x, int program, int... want) {
    for (int i = 0; i < want.length; i++) {
      is("of(" + program + ", " + i / 3 + ", " + i % 3 + ")", x.of(program, i / 3, i % 3), want[i]);
    }
    is("LINES of program " + program + " beyond", x.of(program, want.length / 3, 0), NOTHING);
  }

  /** Whether BEHIND each LINE of program 0, from the first on, is what is told. */
  static void behindAre(SliceLoom x, int... want) {
    for (int p = 0; p < want.length; p++) {
      is("of(0, " + p + ", 3)", x.of(0, p, 3), want[p]);
    }
  }

  /** What hangs() answers for each s and t, -2 standing for those that are no STATEMENTS. */
  static void hangsAre(SliceLoom x, int[]... want) {
    for (int s = 0; s < want.length; s++) {
      for (int t = 0; t < want[s].length; t++) {
        is("hangs(0, " + s + ", " + t + ")", x.hangs(0, s, t), want[s][t]);
      }
    }
  }
}
