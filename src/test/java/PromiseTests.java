/** Each promise of the document by its number: ordinary inputs, its edges, and wrong inputs. */
public final class PromiseTests {
  private static final int SET = 0;
  private static final int STORE = 1;
  private static final int TELL = 2;
  private static final int IF = 3;
  private static final int ELSE = 4;
  private static final int WHILE = 5;
  private static final int CLOSE = 6;
  private static final int LEAVE = 7;
  private static final int GIVE = 8;
  private static final int NOTHING = -2000000000;
  private static final int MIN = Integer.MIN_VALUE;
  private static final int MAX = Integer.MAX_VALUE;

  private static int wrong = 0;
  private static int asked = 0;

  private static void due(int promise, String what, int got, int want) {
    asked++;
    if (got != want) {
      wrong++;
      System.out.println("promise " + promise + ": " + what + " answered " + got + ", due is " + want);
    }
  }

  private static int e(int sort, int a, int b) {
    return 65536 * sort + 256 * a + b;
  }

  private static int name(int name) {
    return e(0, name, 0);
  }

  private static int number(int number) {
    return e(0, 150 + number, 0);
  }

  private static int at(int row, int operand) {
    return row + 4 * operand;
  }

  /** A loom with one program of these LINES, each told as KIND, x, e. */
  private static SliceLoom loom(int... lines) {
    SliceLoom x = new SliceLoom();
    add(x, lines);
    return x;
  }

  private static int add(SliceLoom x, int... lines) {
    int program = x.program();
    for (int i = 0; i + 2 < lines.length; i += 3) {
      int made = x.line(program, lines[i], lines[i + 1], lines[i + 2]);
      due(3, "LINE " + i / 3 + " of a program of the tests", made, i / 3);
    }
    return program;
  }

  /** Whether the SET AT HAND has just these LINES. */
  private static void atHand(int promise, String what, SliceLoom x, int... lines) {
    long want = 0;
    for (int p : lines) {
      want |= 1L << p;
    }
    for (int p = 0; p < 60; p++) {
      due(promise, what + ", then has(" + p + ")", x.has(p), (int) (want >>> p & 1));
    }
    due(27, what + ", then count(3)", x.count(3), lines.length);
  }

  public static void main(String[] args) {
    newObject();
    programs();
    linesThatFit();
    linesWithWrongOperands();
    linesOfParts();
    ofLines();
    behindLines();
    wholes();
    starts();
    runs();
    sorts();
    divisions();
    rows();
    waysOfRuns();
    whatRan();
    tellings();
    valuesAndPlaces();
    readOnNames();
    readOnRows();
    namesThatAreRead();
    decided();
    looseWays();
    slices();
    onwards();
    setsThatAreLeft();
    refusedQuestions();
    nevers();
    distances();
    cuts();
    cutLeaves();
    sameness();
    besides();
    besideKinds();
    steps();
    traces();
    tracesOfRefused();
    tracesOfDeciders();
    recordEmptied();
    counts();
    System.out.println(asked + " answers asked for, " + wrong + " not as due");
    if (wrong != 0) {
      System.exit(1);
    }
  }

  private static void newObject() {
    SliceLoom x = new SliceLoom();
    for (int what = 0; what < 4; what++) {
      due(1, "count(" + what + ")", x.count(what), 0);
      due(8, "ran before the first RUN", x.ran(what), -1);
    }
    due(8, "ran(4), the RUN being asked for first", x.ran(4), -1);
    due(9, "told(0)", x.told(0), 0);
    due(10, "value(0)", x.value(0), 0);
    due(11, "place(0, 0)", x.place(0, 0), 0);
    due(18, "has(0)", x.has(0), 0);
    due(21, "became(0)", x.became(0), -1);
    due(24, "step(0)", x.step(0), -1);
    due(25, "trace(0)", x.trace(0), -2);
    due(26, "traced(0, 0)", x.traced(0, 0), -2);
    due(5, "whole(0)", x.whole(0), -2);
    for (int name = 0; name < 8; name++) {
      due(1, "start(" + name + ", 5)", x.start(name, 5), 0);
    }
  }

  private static void programs() {
    SliceLoom x = new SliceLoom();
    for (int i = 0; i < 16; i++) {
      due(2, "program()", x.program(), i);
    }
    due(2, "program() when there are 16", x.program(), -2);
    due(27, "count(0)", x.count(0), 16);
    due(5, "whole(16) when there are 16", x.whole(16), -2);
    due(27, "count(1) when there are 16", x.count(1), 0);
    due(3, "line of the last", x.line(15, TELL, 0, 0), 0);
    due(20, "cut when there are 16", x.cut(15, 0), -2);
    due(21, "became behind a refused cut", x.became(0), -1);
  }

  private static void linesThatFit() {
    SliceLoom x = new SliceLoom();
    due(3, "line of no program", x.line(0, TELL, 0, 0), -2);
    x.program();
    due(3, "line of program -1", x.line(-1, TELL, 0, 0), -2);
    due(3, "line of program 1", x.line(1, TELL, 0, 0), -2);
    due(3, "kind -1", x.line(0, -1, 0, 0), -2);
    due(3, "kind 9", x.line(0, 9, 0, 0), -2);
    for (int i = 0; i < 60; i++) {
      due(3, "line", x.line(0, SET, i % 8, number(i % 50)), i);
    }
    due(3, "a line more than 60", x.line(0, TELL, 0, 0), -2);
    due(27, "count(1)", x.count(1), 60);
    due(13, "slice of the last of 60", x.slice(0, 59), 1);
    due(18, "has(59)", x.has(59), 1);
    due(7, "run", x.run(0, 60), 0);
    due(8, "ran(0)", x.ran(0), 60);
  }

  private static void linesWithWrongOperands() {
    SliceLoom x = new SliceLoom();
    x.program();
    int[] wrongE = {-1, MIN, MAX, e(9, 0, 0), e(0, 8, 0), e(0, 99, 0), e(0, 201, 0), e(0, 0, 1), e(0, 0, 150),
      e(1, 8, 0), e(1, 0, 8), e(1, 0, 99), e(1, 0, 201), e(1, 255, 0), e(7, 0, 255), e(8, 3, 0), e(8, 150, 0), e(8, 0, 8)};
    int[] kindsWithE = {SET, STORE, TELL, IF, WHILE};
    for (int kind : kindsWithE) {
      for (int e : wrongE) {
        due(3, "kind " + kind + " with e " + e, x.line(0, kind, 0, e), -2);
      }
    }
    int[] wrongX = {-1, MIN, 8, 100, MAX};
    for (int v : wrongX) {
      due(3, "SET of " + v, x.line(0, SET, v, 0), -2);
    }
    int[] wrongPlaces = {-4, -1, MIN, MAX, 3, at(3, 150), at(0, 8), at(0, 99), at(0, 201), at(2, 256)};
    for (int v : wrongPlaces) {
      due(3, "STORE into " + v, x.line(0, STORE, v, 0), -2);
    }
    due(3, "TELL with x", x.line(0, TELL, 1, 0), -2);
    due(3, "IF with x", x.line(0, IF, 1, 0), -2);
    due(3, "WHILE with x", x.line(0, WHILE, -1, 0), -2);
    due(3, "GIVE with x", x.line(0, GIVE, 1, 0), -2);
    due(3, "GIVE with e", x.line(0, GIVE, 0, 1), -2);
    due(3, "SET", x.line(0, SET, 7, e(7, 100, 200)), 0);
    due(3, "STORE", x.line(0, STORE, at(2, 7), e(8, 2, 7)), 1);
    due(3, "STORE", x.line(0, STORE, at(2, 200), e(8, 0, 100)), 2);
    due(3, "TELL", x.line(0, TELL, 0, e(0, 7, 0)), 3);
    due(3, "WHILE", x.line(0, WHILE, 0, 0), 4);
    due(3, "CLOSE with x", x.line(0, CLOSE, 1, 0), -2);
    due(3, "CLOSE with e", x.line(0, CLOSE, 0, 1), -2);
    due(3, "LEAVE with e", x.line(0, LEAVE, 1, 1), -2);
    due(3, "IF", x.line(0, IF, 0, 0), 5);
    due(3, "ELSE with x", x.line(0, ELSE, 1, 0), -2);
    due(3, "ELSE with e", x.line(0, ELSE, 0, 256), -2);
    due(27, "count(1)", x.count(1), 6);
  }

  private static void linesOfParts() {
    SliceLoom x = new SliceLoom();
    x.program();
    due(3, "ELSE of nothing", x.line(0, ELSE, 0, 0), -2);
    due(3, "CLOSE of nothing", x.line(0, CLOSE, 0, 0), -2);
    due(3, "LEAVE of nothing", x.line(0, LEAVE, 1, 0), -2);
    due(3, "WHILE", x.line(0, WHILE, 0, 0), 0);
    due(3, "ELSE of a WHILE", x.line(0, ELSE, 0, 0), -2);
    due(3, "IF", x.line(0, IF, 0, 0), 1);
    due(3, "LEAVE 0", x.line(0, LEAVE, 0, 0), -2);
    due(3, "LEAVE 2 of 1", x.line(0, LEAVE, 2, 0), -2);
    due(3, "LEAVE 1 out of an IF", x.line(0, LEAVE, 1, 0), 2);
    due(3, "ELSE", x.line(0, ELSE, 0, 0), 3);
    due(3, "ELSE again", x.line(0, ELSE, 0, 0), -2);
    due(3, "IF in the ELSE", x.line(0, IF, 0, 0), 4);
    due(3, "ELSE of that", x.line(0, ELSE, 0, 0), 5);
    due(3, "CLOSE", x.line(0, CLOSE, 0, 0), 6);
    due(3, "ELSE again, of the outer", x.line(0, ELSE, 0, 0), -2);
    due(3, "CLOSE", x.line(0, CLOSE, 0, 0), 7);
    due(3, "CLOSE", x.line(0, CLOSE, 0, 0), 8);
    due(3, "LEAVE behind the WHILE", x.line(0, LEAVE, 1, 0), -2);
    for (int i = 0; i < 12; i++) {
      due(3, "a part in parts", x.line(0, i % 2 == 0 ? IF : WHILE, 0, 0), 9 + i);
    }
    due(3, "a 13th IF", x.line(0, IF, 0, 0), -2);
    due(3, "a 13th WHILE", x.line(0, WHILE, 0, 0), -2);
    due(3, "LEAVE 7 of 6", x.line(0, LEAVE, 7, 0), -2);
    due(3, "LEAVE 6 of 6", x.line(0, LEAVE, 6, 0), 21);
    due(4, "parts around it", x.of(0, 21, 4), 12);
    due(3, "CLOSE", x.line(0, CLOSE, 0, 0), 22);
    due(3, "a 12th once more", x.line(0, WHILE, 0, 0), 23);
  }

  private static void ofLines() {
    SliceLoom x = loom(WHILE, 0, name(1), IF, 0, e(6, 1, 155), SET, 1, e(1, 1, 151), ELSE, 0, 0,
        STORE, at(1, 3), e(8, 2, 150), CLOSE, 0, 0, CLOSE, 0, 0, TELL, 0, name(3));
    int[][] wants = {
      {WHILE, 0, name(1), 1, 0}, {IF, 0, e(6, 1, 155), 2, 1}, {SET, 1, e(1, 1, 151), 0, 2}, {ELSE, 0, 0, 4, 2},
      {STORE, 13, e(8, 2, 150), 0, 2}, {CLOSE, 0, 0, 0, 2}, {CLOSE, 0, 0, 7, 1}, {TELL, 0, name(3), -1, 0},
    };
    for (int p = 0; p < wants.length; p++) {
      for (int what = 0; what < 5; what++) {
        due(4, "of(0, " + p + ", " + what + ")", x.of(0, p, what), wants[p][what]);
      }
    }
    due(4, "of no program", x.of(1, 0, 0), NOTHING);
    due(4, "of program -1", x.of(-1, 0, 0), NOTHING);
    due(4, "of line -1", x.of(0, -1, 3), NOTHING);
    due(4, "of line 8", x.of(0, 8, 3), NOTHING);
    due(4, "of line MAX", x.of(0, MAX, 3), NOTHING);
    due(4, "of what -1", x.of(0, 0, -1), NOTHING);
    due(4, "of what 5", x.of(0, 0, 5), NOTHING);
    x.line(0, IF, 0, 0);
    due(4, "behind, when it isn't WHOLE", x.of(0, 0, 3), -1);
    due(4, "kind, when it isn't WHOLE", x.of(0, 0, 0), WHILE);
    due(4, "parts, when it isn't WHOLE", x.of(0, 8, 4), 0);
  }

  private static void behindLines() {
    SliceLoom x = loom(WHILE, 0, 0, CLOSE, 0, 0, IF, 0, 0, CLOSE, 0, 0, IF, 0, 0, ELSE, 0, 0, CLOSE, 0, 0,
        IF, 0, 0, IF, 0, 0, TELL, 0, 0, ELSE, 0, 0, CLOSE, 0, 0, ELSE, 0, 0, TELL, 0, 0, CLOSE, 0, 0);
    int[] behind = {0, 2, 4, 4, 7, 7, 7, 8, 9, -1, -1, -1, 13, -1, -1};
    for (int p = 0; p < behind.length; p++) {
      due(4, "behind " + p, x.of(0, p, 3), behind[p]);
    }
    SliceLoom y = loom(WHILE, 0, 0, IF, 0, 0, ELSE, 0, 0, WHILE, 0, 0, CLOSE, 0, 0, CLOSE, 0, 0, CLOSE, 0, 0);
    int[] turning = {1, 0, 3, 3, 0, 0, -1};
    for (int p = 0; p < turning.length; p++) {
      due(4, "behind " + p, y.of(0, p, 3), turning[p]);
    }
  }

  private static void wholes() {
    SliceLoom x = new SliceLoom();
    x.program();
    due(5, "whole of no lines", x.whole(0), 1);
    x.line(0, IF, 0, 0);
    due(5, "whole of an IF", x.whole(0), 0);
    x.line(0, ELSE, 0, 0);
    due(5, "whole of an IF and ELSE", x.whole(0), 0);
    x.line(0, CLOSE, 0, 0);
    due(5, "whole of a closed IF", x.whole(0), 1);
    due(5, "whole(-1)", x.whole(-1), -2);
    due(5, "whole(1)", x.whole(1), -2);
  }

  private static void starts() {
    SliceLoom x = loom(SET, 0, e(1, 0, 7));
    due(6, "start(7, 40)", x.start(7, 40), 0);
    due(6, "start(7, 41)", x.start(7, 41), 40);
    due(6, "start(0, MIN)", x.start(0, MIN), 0);
    due(6, "start(-1, 1)", x.start(-1, 1), NOTHING);
    due(6, "start(8, 1)", x.start(8, 1), NOTHING);
    due(7, "run", x.run(0, 5), 0);
    due(10, "value(0)", x.value(0), MIN + 41);
    due(10, "value(7)", x.value(7), 41);
    due(6, "start(0, 0), which a RUN doesn't change", x.start(0, 0), MIN);
    due(10, "value(0), which START doesn't change", x.value(0), MIN + 41);
  }

  private static void runs() {
    SliceLoom x = loom(TELL, 0, number(4), WHILE, 0, number(1), CLOSE, 0, 0);
    due(7, "run of no program", x.run(1, 5), -2);
    due(7, "run of program -1", x.run(-1, 5), -2);
    due(7, "run with fuel -1", x.run(0, -1), -2);
    due(7, "run with fuel 20001", x.run(0, 20001), -2);
    due(8, "ran(0) behind refused RUNS", x.ran(0), -1);
    due(7, "run with fuel 20000", x.run(0, 20000), 2);
    due(8, "ran(0)", x.ran(0), 20000);
    due(8, "ran(1)", x.ran(1), 1);
    due(27, "count(2)", x.count(2), 400);
    due(7, "a refused RUN", x.run(0, 20001), -2);
    due(8, "ran(0) behind a refused RUN", x.ran(0), 20000);
    due(7, "run with fuel 0", x.run(0, 0), 2);
    due(8, "ran(1)", x.ran(1), 0);
    due(8, "ran(2)", x.ran(2), 0);
    x.line(0, IF, 0, 0);
    due(7, "run of one that isn't WHOLE", x.run(0, 5), -2);
    SliceLoom y = loom(TELL, 0, 0, TELL, 0, 0);
    due(7, "fuel that is just enough", y.run(0, 2), 0);
    due(7, "fuel that isn't", y.run(0, 1), 2);
    y.program();
    due(7, "no lines, no fuel", y.run(1, 0), 0);
    due(8, "ran(1)", y.ran(1), -1);
    due(8, "ran(3)", y.ran(3), 1);
  }

  private static void sorts() {
    int[][] wants = {
      {0, 7, 0, 7}, {1, 7, 3, 10}, {2, 7, 3, 4}, {3, 7, 3, 21}, {4, 7, 3, 2}, {5, 7, 3, 1}, {6, 7, 3, 0}, {7, 7, 3, 0},
      {1, MAX, 1, MIN}, {2, MIN, 1, MAX}, {3, 65536, 65536, 0}, {3, MAX, 2, -2}, {4, -7, 2, -3}, {5, -7, 2, -1},
      {4, 7, -2, -3}, {5, 7, -2, 1}, {4, MIN, -1, MIN}, {5, MIN, -1, 0}, {6, 3, 7, 1}, {6, 3, 3, 0}, {6, MIN, MAX, 1},
      {7, 3, 3, 1}, {7, MIN, MAX, 0},
    };
    for (int[] want : wants) {
      SliceLoom x = loom(TELL, 0, e(want[0], 5, want[0] == 0 ? 0 : 6));
      x.start(5, want[1]);
      x.start(6, want[2]);
      due(7, "run of sort " + want[0], x.run(0, 9), 0);
      due(9, "sort " + want[0] + " of " + want[1] + " and " + want[2], x.told(0), want[3]);
    }
    SliceLoom x = loom(TELL, 0, e(2, 100, 200), TELL, 0, e(0, 100, 0), TELL, 0, e(0, 200, 0));
    x.run(0, 9);
    due(9, "-50 less 50", x.told(0), -100);
    due(9, "-50", x.told(1), -50);
    due(9, "50", x.told(2), 50);
  }

  private static void divisions() {
    for (int sort = 4; sort <= 5; sort++) {
      SliceLoom x = loom(SET, 1, number(9), SET, 1, e(sort, 153, 0), TELL, 0, 0);
      due(7, "a division by 0", x.run(0, 9), 1);
      due(8, "ran(0)", x.ran(0), 2);
      due(8, "ran(1)", x.ran(1), 1);
      due(8, "ran(2)", x.ran(2), 0);
      due(10, "value(1)", x.value(1), 9);
      due(7, "a division by 0 as the last STEP of the fuel", x.run(0, 2), 1);
      due(7, "less fuel", x.run(0, 1), 2);
    }
  }

  private static void rows() {
    SliceLoom x = loom(STORE, at(2, 153), number(6), STORE, at(0, 1), e(8, 2, 153), TELL, 0, e(8, 0, 1));
    x.start(1, 2);
    due(7, "run", x.run(0, 9), 0);
    due(9, "told(0)", x.told(0), 6);
    due(11, "place(2, 3)", x.place(2, 3), 6);
    due(11, "place(0, 2)", x.place(0, 2), 6);
    due(11, "place(0, 3)", x.place(0, 3), 0);
    x.start(1, 4);
    due(7, "STORE at place 4", x.run(0, 9), 1);
    due(8, "ran(1)", x.ran(1), 1);
    due(11, "place(0, 2), ROWS being 0 at first", x.place(0, 2), 0);
    x.start(1, -1);
    due(7, "STORE at place -1", x.run(0, 9), 1);
    int[] there = {149, 150, 153, 154};
    for (int operand : there) {
      SliceLoom y = loom(TELL, 0, e(8, 1, operand));
      due(7, "place " + (operand - 150), y.run(0, 9), operand == 149 || operand == 154 ? 1 : 0);
      due(8, "ran(2)", y.ran(2), operand == 149 || operand == 154 ? 0 : 1);
    }
  }

  private static void waysOfRuns() {
    SliceLoom x = loom(
        WHILE, 0, number(1),
        WHILE, 0, number(1),
        SET, 0, e(1, 0, 151),
        IF, 0, e(7, 0, 152), LEAVE, 1, 0, ELSE, 0, 0, TELL, 0, name(0), CLOSE, 0, 0,
        IF, 0, e(7, 0, 155), LEAVE, 2, 0, CLOSE, 0, 0,
        CLOSE, 0, 0,
        TELL, 0, number(50),
        CLOSE, 0, 0,
        IF, 0, number(-1), TELL, 0, number(8), GIVE, 0, 0, CLOSE, 0, 0,
        TELL, 0, number(9));
    due(7, "run", x.run(0, 1000), 0);
    int[] want = {1, 50, 3, 4, 5, 8};
    due(8, "ran(2)", x.ran(2), want.length);
    for (int i = 0; i < want.length; i++) {
      due(9, "told(" + i + ")", x.told(i), want[i]);
    }
    due(8, "ran(1)", x.ran(1), -1);
  }

  private static void whatRan() {
    SliceLoom x = loom(TELL, 0, 0);
    add(x, TELL, 0, 0, TELL, 0, 0);
    x.run(1, 9);
    due(8, "ran(0)", x.ran(0), 2);
    due(8, "ran(1)", x.ran(1), -1);
    due(8, "ran(2)", x.ran(2), 2);
    due(8, "ran(3)", x.ran(3), 1);
    due(8, "ran(-1)", x.ran(-1), -2);
    due(8, "ran(4)", x.ran(4), -2);
  }

  private static void tellings() {
    SliceLoom x = loom(WHILE, 0, number(1), SET, 0, e(1, 0, 151), TELL, 0, name(0), CLOSE, 0, 0);
    due(7, "run", x.run(0, 1000), 2);
    due(8, "ran(2) counts all", x.ran(2), 333);
    due(9, "told(0)", x.told(0), 1);
    due(9, "told(299)", x.told(299), 300);
    due(9, "told(300)", x.told(300), 0);
    due(9, "told(-1)", x.told(-1), 0);
    due(9, "told(MIN)", x.told(MIN), 0);
    due(7, "run", x.run(0, 3), 2);
    due(9, "told(0)", x.told(0), 1);
    due(9, "told(1), told by an earlier RUN alone", x.told(1), 0);
  }

  private static void valuesAndPlaces() {
    SliceLoom x = loom(SET, 7, number(3), STORE, at(2, 153), number(4), STORE, at(0, 150), number(6));
    x.start(1, 77);
    due(10, "value(1) before a RUN", x.value(1), 0);
    x.run(0, 9);
    due(10, "value(7)", x.value(7), 3);
    due(10, "value(1)", x.value(1), 77);
    due(10, "value(-1)", x.value(-1), 0);
    due(10, "value(8)", x.value(8), 0);
    due(11, "place(2, 3)", x.place(2, 3), 4);
    due(11, "place(0, 0)", x.place(0, 0), 6);
    int[][] none = {{-1, 0}, {3, 0}, {0, -1}, {2, 4}, {1, 7}, {0, 11}, {MIN, MAX}};
    for (int[] place : none) {
      due(11, "place(" + place[0] + ", " + place[1] + ")", x.place(place[0], place[1]), 0);
    }
  }

  private static void readOnNames() {
    SliceLoom x = loom(SET, 0, number(1), SET, 0, number(2), TELL, 0, name(0), WHILE, 0, name(1),
        SET, 0, e(1, 0, 151), SET, 0, e(1, 0, 151), CLOSE, 0, 0, TELL, 0, name(0));
    due(12, "a SET that another hides", x.hangs(0, 2, 0), 0);
    due(12, "a SET", x.hangs(0, 2, 1), 1);
    due(12, "a SET, past a WHILE", x.hangs(0, 7, 1), 1);
    due(12, "a SET in a WHILE, hidden", x.hangs(0, 7, 4), 0);
    due(12, "a SET in a WHILE", x.hangs(0, 7, 5), 1);
    due(12, "a SET in the round before", x.hangs(0, 4, 5), 1);
    due(12, "a SET that is itself, hidden", x.hangs(0, 4, 4), 0);
    due(12, "a SET to which no row of WAYS leads back", x.hangs(0, 2, 5), 0);
    due(12, "a SET of another NAME", x.hangs(0, 3, 1), 0);
    SliceLoom y = loom(WHILE, 0, number(1), SET, 0, e(1, 0, 151), CLOSE, 0, 0, SET, 0, e(1, 0, 151));
    due(12, "itself in a WHILE", y.hangs(0, 1, 1), 1);
    due(12, "itself without a row of WAYS", y.hangs(0, 3, 3), 0);
    SliceLoom turns = loom(WHILE, 0, name(0), IF, 0, name(1), SET, 0, number(1), CLOSE, 0, 0, CLOSE, 0, 0);
    due(12, "the first LINE, on a SET behind it", turns.hangs(0, 0, 2), 1);
    SliceLoom leaves = loom(WHILE, 0, name(0), WHILE, 0, name(0), SET, 0, number(1), LEAVE, 1, 0, CLOSE, 0, 0, CLOSE, 0, 0);
    due(12, "the first LINE, past a LEAVE", leaves.hangs(0, 0, 2), 1);
    due(12, "the WHILE that is left, past the first LINE", leaves.hangs(0, 1, 2), 1);
    SliceLoom z = loom(SET, 0, number(1), GIVE, 0, 0, TELL, 0, name(0), SET, 1, number(1), TELL, 0, name(1));
    due(12, "past a GIVE", z.hangs(0, 2, 0), 0);
    due(12, "both behind a GIVE", z.hangs(0, 4, 3), 1);
  }

  private static void readOnRows() {
    SliceLoom x = loom(STORE, at(1, 150), number(5), STORE, at(1, 150), number(6), STORE, at(1, 2), number(7),
        TELL, 0, e(8, 1, 150), TELL, 0, e(8, 1, 151), TELL, 0, e(8, 1, 3), TELL, 0, e(8, 0, 150),
        STORE, at(1, 151), e(8, 1, 151), STORE, at(1, 170), 0, TELL, 0, e(8, 1, 170));
    due(12, "a STORE isn't hidden", x.hangs(0, 3, 0), 1);
    due(12, "a STORE at the same number", x.hangs(0, 3, 1), 1);
    due(12, "a STORE where a NAME tells", x.hangs(0, 3, 2), 1);
    due(12, "a STORE at another number", x.hangs(0, 4, 0), 0);
    due(12, "a STORE where a NAME tells", x.hangs(0, 4, 2), 1);
    due(12, "a read where a NAME tells", x.hangs(0, 5, 0), 1);
    due(12, "two NAMES", x.hangs(0, 5, 2), 1);
    due(12, "another ROW", x.hangs(0, 6, 0), 0);
    due(12, "a later STORE", x.hangs(0, 3, 7), 0);
    due(12, "a STORE on itself without a row of WAYS", x.hangs(0, 7, 7), 0);
    due(12, "the same number, no such place", x.hangs(0, 9, 8), 1);
    SliceLoom y = loom(WHILE, 0, number(1), STORE, at(1, 151), e(8, 1, 151), STORE, at(2, 151), e(8, 2, 152), CLOSE, 0, 0);
    due(12, "a STORE on itself in a WHILE", y.hangs(0, 1, 1), 1);
    due(12, "at another place", y.hangs(0, 2, 2), 0);
  }

  private static void namesThatAreRead() {
    SliceLoom x = loom(SET, 0, number(1), SET, 1, number(1), SET, 2, number(1), STORE, at(0, 2), e(1, 1, 151),
        TELL, 0, e(8, 1, 2), TELL, 0, name(1), TELL, 0, e(3, 150, 2), WHILE, 0, e(6, 1, 2), LEAVE, 1, 0, CLOSE, 0, 0,
        IF, 0, name(2), GIVE, 0, 0, CLOSE, 0, 0, SET, 3, number(0));
    due(12, "the place of a STORE", x.hangs(0, 3, 2), 1);
    due(12, "e of a STORE", x.hangs(0, 3, 1), 1);
    due(12, "NAME 0, which a STORE doesn't read", x.hangs(0, 3, 0), 0);
    due(12, "the place of a ROW", x.hangs(0, 4, 2), 1);
    due(12, "the ROW, which is no NAME", x.hangs(0, 4, 1), 0);
    due(12, "a alone", x.hangs(0, 5, 1), 1);
    due(12, "b, which is 0 where there is none", x.hangs(0, 5, 0), 0);
    due(12, "b", x.hangs(0, 6, 2), 1);
    due(12, "a WHILE", x.hangs(0, 7, 2), 1);
    due(12, "a LEAVE, which has no e", x.hangs(0, 8, 0), 0);
    due(12, "an IF", x.hangs(0, 10, 2), 1);
    due(12, "a GIVE, which has no e", x.hangs(0, 11, 0), 0);
    due(12, "a number", x.hangs(0, 13, 0), 0);
  }

  private static void decided() {
    SliceLoom x = loom(
        IF, 0, name(0), TELL, 0, 0, IF, 0, name(1), TELL, 0, 0, CLOSE, 0, 0, ELSE, 0, 0, TELL, 0, 0, CLOSE, 0, 0,
        TELL, 0, 0, WHILE, 0, name(2), TELL, 0, 0, CLOSE, 0, 0, WHILE, 0, 0, CLOSE, 0, 0,
        IF, 0, 0, CLOSE, 0, 0, TELL, 0, 0);
    due(12, "in an IF", x.hangs(0, 1, 0), 2);
    due(12, "an IF in an IF", x.hangs(0, 2, 0), 2);
    due(12, "in an IF in an IF, by the inner", x.hangs(0, 3, 2), 2);
    due(12, "in an IF in an IF, by the outer", x.hangs(0, 3, 0), 0);
    due(12, "in an ELSE", x.hangs(0, 6, 0), 2);
    due(12, "behind the IF", x.hangs(0, 8, 0), 0);
    due(12, "an IF by itself", x.hangs(0, 0, 0), 0);
    due(12, "in a WHILE", x.hangs(0, 10, 9), 2);
    due(12, "a WHILE by itself", x.hangs(0, 9, 9), 2);
    due(12, "behind the WHILE", x.hangs(0, 12, 9), 0);
    due(12, "a WHILE with nothing within", x.hangs(0, 12, 12), 2);
    due(12, "an IF with nothing within", x.hangs(0, 16, 14), 0);
    due(12, "by a TELL", x.hangs(0, 2, 1), 0);
  }

  private static void looseWays() {
    SliceLoom x = loom(
        WHILE, 0, number(1), IF, 0, name(0), LEAVE, 1, 0, TELL, 0, 0, CLOSE, 0, 0, TELL, 0, 0, CLOSE, 0, 0,
        TELL, 0, 0, IF, 0, name(1), GIVE, 0, 0, CLOSE, 0, 0, TELL, 0, 0);
    due(12, "behind a LEAVE in its part", x.hangs(0, 3, 2), 2);
    due(12, "behind a LEAVE in its WHILE", x.hangs(0, 5, 2), 2);
    due(12, "the WHILE by its LEAVE", x.hangs(0, 0, 2), 2);
    due(12, "the LEAVE by its IF", x.hangs(0, 2, 1), 2);
    due(12, "behind a LEAVE in its part, by the IF", x.hangs(0, 3, 1), 0);
    due(12, "behind a LEAVE in its WHILE, by the IF", x.hangs(0, 5, 1), 2);
    due(12, "behind the WHILE, by the LEAVE", x.hangs(0, 7, 2), 0);
    due(12, "behind a GIVE", x.hangs(0, 11, 9), 2);
    due(12, "behind a GIVE, by its IF", x.hangs(0, 11, 8), 2);
    due(12, "a GIVE by its IF", x.hangs(0, 9, 8), 2);
    due(12, "ahead of a GIVE", x.hangs(0, 7, 9), 0);
    SliceLoom y = loom(WHILE, 0, 0, LEAVE, 1, 0, CLOSE, 0, 0, GIVE, 0, 0);
    due(12, "a LEAVE by itself", y.hangs(0, 1, 1), 0);
    due(12, "a WHILE by its LEAVE at the end", y.hangs(0, 0, 1), 2);
    due(12, "a GIVE at the end by itself", y.hangs(0, 3, 3), 0);
  }

  private static SliceLoom parted() {
    return loom(SET, 0, number(1), SET, 1, e(1, 0, 151), SET, 2, name(1), TELL, 0, name(1), SET, 3, number(4),
        IF, 0, name(3), ELSE, 0, 0, TELL, 0, number(2), CLOSE, 0, 0);
  }

  private static void slices() {
    SliceLoom x = parted();
    due(13, "slice(0, 3)", x.slice(0, 3), 3);
    atHand(13, "slice(0, 3)", x, 0, 1, 3);
    due(13, "slice(0, 0)", x.slice(0, 0), 1);
    atHand(13, "slice(0, 0)", x, 0);
    due(13, "slice(0, 7)", x.slice(0, 7), 3);
    atHand(13, "slice(0, 7)", x, 4, 5, 7);
  }

  private static void onwards() {
    SliceLoom x = parted();
    due(14, "onward(0, 0)", x.onward(0, 0), 4);
    atHand(14, "onward(0, 0)", x, 0, 1, 2, 3);
    due(14, "onward(0, 7)", x.onward(0, 7), 1);
    atHand(14, "onward(0, 7)", x, 7);
    due(15, "between(0, 3, 1)", x.between(0, 3, 1), 2);
    atHand(15, "between(0, 3, 1)", x, 1, 3);
    due(15, "between(0, 3, 3)", x.between(0, 3, 3), 1);
    atHand(15, "between(0, 3, 3)", x, 3);
    due(15, "between(0, 1, 3)", x.between(0, 1, 3), 0);
    atHand(15, "between(0, 1, 3)", x);
  }

  private static void setsThatAreLeft() {
    SliceLoom x = parted();
    due(16, "used(0)", x.used(0), 6);
    atHand(16, "used(0)", x, 0, 1, 3, 4, 5, 7);
    due(13, "a refused slice", x.slice(0, 6), -2);
    due(3, "a LINE more", x.line(0, SET, 0, name(0)), 9);
    atHand(18, "what changes nothing", x, 0, 1, 3, 4, 5, 7);
    due(18, "has(-1)", x.has(-1), 0);
    due(18, "has(60)", x.has(60), 0);
    due(18, "has(64), which is not 0 once more", x.has(64), 0);
    due(18, "has(MIN)", x.has(MIN), 0);
    due(13, "slice of the LINE more", x.slice(0, 9), 2);
    atHand(13, "slice of the LINE more", x, 0, 9);
  }

  private static void refusedQuestions() {
    SliceLoom x = loom(IF, 0, 0, TELL, 0, 0, ELSE, 0, 0, CLOSE, 0, 0);
    add(x, IF, 0, 0);
    x.slice(0, 1);
    int[] noStatements = {-1, 2, 3, 4, 60, 64, MIN, MAX};
    for (int p : noStatements) {
      due(12, "hangs of " + p, x.hangs(0, p, 0), -2);
      due(12, "hangs on " + p, x.hangs(0, 0, p), -2);
      due(13, "slice of " + p, x.slice(0, p), -2);
      due(14, "onward of " + p, x.onward(0, p), -2);
      due(15, "between of " + p, x.between(0, p, 0), -2);
      due(15, "between to " + p, x.between(0, 0, p), -2);
      due(19, "far of " + p, x.far(0, p, 0), -2);
      due(19, "far to " + p, x.far(0, 0, p), -2);
      due(19, "far from it to it of " + p, x.far(0, p, p), -2);
      due(20, "cut for " + p, x.cut(0, p), -2);
      due(23, "beside at " + p, x.beside(0, p, 0, 0, 5), -2);
      due(23, "beside at " + p, x.beside(0, 0, 0, p, 5), -2);
    }
    int[] noWholes = {-1, 1, 2, 16, MIN, MAX};
    for (int g : noWholes) {
      due(12, "hangs in " + g, x.hangs(g, 0, 0), -2);
      due(13, "slice in " + g, x.slice(g, 0), -2);
      due(14, "onward in " + g, x.onward(g, 0), -2);
      due(15, "between in " + g, x.between(g, 0, 0), -2);
      due(16, "used of " + g, x.used(g), -2);
      due(17, "never of " + g, x.never(g), -2);
      due(19, "far in " + g, x.far(g, 0, 0), -2);
      due(20, "cut of " + g, x.cut(g, 0), -2);
      due(23, "beside of " + g, x.beside(g, 0, 0, 0, 5), -2);
      due(23, "beside of " + g, x.beside(0, 0, g, 0, 5), -2);
    }
    due(23, "beside with fuel -1", x.beside(0, 0, 0, 0, -1), -2);
    due(23, "beside with fuel 20001", x.beside(0, 0, 0, 0, 20001), -2);
    due(27, "count(0)", x.count(0), 2);
    due(8, "ran(0)", x.ran(0), -1);
    atHand(13, "refused calls", x, 0, 1);
  }

  private static void nevers() {
    SliceLoom x = loom(WHILE, 0, number(0), LEAVE, 1, 0, TELL, 0, 0, CLOSE, 0, 0, IF, 0, number(1), GIVE, 0, 0, TELL, 0, 0,
        ELSE, 0, 0, GIVE, 0, 0, CLOSE, 0, 0, TELL, 0, 0, WHILE, 0, 0, TELL, 0, 0, CLOSE, 0, 0);
    due(17, "never(0)", x.never(0), 5);
    atHand(17, "never(0)", x, 2, 6, 10, 11, 12);
    SliceLoom y = loom(TELL, 0, 0, TELL, 0, 0);
    due(17, "never of a straight one", y.never(0), 0);
    SliceLoom z = loom(GIVE, 0, 0);
    due(17, "never of a GIVE alone", z.never(0), 0);
    SliceLoom none = loom();
    due(17, "never of no LINES", none.never(0), 0);
    due(16, "used of no LINES", none.used(0), 0);
  }

  private static void distances() {
    SliceLoom x = loom(SET, 0, number(1), SET, 1, name(0), SET, 2, name(1), TELL, 0, e(1, 1, 2), TELL, 0, name(2));
    due(19, "far(0, 4, 4)", x.far(0, 4, 4), 0);
    due(19, "far(0, 4, 2)", x.far(0, 4, 2), 1);
    due(19, "far(0, 4, 1)", x.far(0, 4, 1), 2);
    due(19, "far(0, 4, 0)", x.far(0, 4, 0), 3);
    due(19, "far(0, 3, 0), the shorter way", x.far(0, 3, 0), 2);
    due(19, "far(0, 0, 4)", x.far(0, 0, 4), -1);
    due(19, "far(0, 3, 4)", x.far(0, 3, 4), -1);
    SliceLoom y = new SliceLoom();
    y.program();
    for (int i = 0; i < 60; i++) {
      y.line(0, SET, i % 2, i == 0 ? number(1) : name(1 - i % 2));
    }
    due(19, "the length of 60 LINES", y.far(0, 59, 0), 59);
    due(13, "slice of the last", y.slice(0, 59), 60);
    due(14, "onward of the first", y.onward(0, 0), 60);
  }

  private static void cuts() {
    SliceLoom x = loom(SET, 1, number(2), IF, 0, name(0), TELL, 0, number(4), ELSE, 0, 0, SET, 2, name(1), CLOSE, 0, 0,
        WHILE, 0, name(3), TELL, 0, 0, CLOSE, 0, 0, TELL, 0, name(2));
    due(20, "cut(0, 9)", x.cut(0, 9), 1);
    int[][] want = {{SET, 1, number(2)}, {IF, 0, name(0)}, {ELSE, 0, 0}, {SET, 2, name(1)}, {CLOSE, 0, 0}, {TELL, 0, name(2)}};
    for (int p = 0; p < want.length; p++) {
      for (int what = 0; what < 3; what++) {
        due(20, "of(1, " + p + ", " + what + ")", x.of(1, p, what), want[p][what]);
      }
    }
    due(20, "LINES of it", x.of(1, want.length, 0), NOTHING);
    due(5, "whole(1)", x.whole(1), 1);
    int[] numbers = {0, 1, -1, 2, 3, 4, -1, -1, -1, 5, -1};
    for (int p = 0; p < numbers.length; p++) {
      due(21, "became(" + p + ")", x.became(p), numbers[p]);
    }
    due(21, "became(-1)", x.became(-1), -1);
    due(21, "became(60)", x.became(60), -1);
    due(21, "became(MAX)", x.became(MAX), -1);
    due(18, "the SET AT HAND is left", x.count(3), 0);
    due(20, "a refused cut", x.cut(0, 8), -2);
    due(21, "became(9)", x.became(9), 5);
    due(20, "a cut of the cut", x.cut(1, 0), 2);
    due(21, "became(0)", x.became(0), 0);
    due(21, "became(9), of the latest cut", x.became(9), -1);
    due(27, "count(1)", x.count(1), 17);
    due(3, "a LINE more in a cut", x.line(2, TELL, 0, name(1)), 1);
    due(7, "run of a cut", x.run(2, 9), 0);
    due(9, "told(0)", x.told(0), 2);
    due(20, "cut for an IF", x.cut(0, 1), 3);
    due(20, "has its ELSE", x.of(3, 1, 0), ELSE);
    due(20, "has its CLOSE", x.of(3, 2, 0), CLOSE);
  }

  private static void cutLeaves() {
    SliceLoom x = loom(WHILE, 0, name(0), TELL, 0, 0, WHILE, 0, name(1), IF, 0, name(2), LEAVE, 2, 0, CLOSE, 0, 0,
        SET, 3, number(1), CLOSE, 0, 0, CLOSE, 0, 0, TELL, 0, name(3));
    due(20, "cut(0, 6)", x.cut(0, 6), 1);
    int[][] want = {{WHILE, 0}, {WHILE, 0}, {IF, 0}, {LEAVE, 2}, {CLOSE, 0}, {SET, 3}, {CLOSE, 0}, {CLOSE, 0}};
    for (int p = 0; p < want.length; p++) {
      due(20, "of(1, " + p + ", 0)", x.of(1, p, 0), want[p][0]);
      due(20, "of(1, " + p + ", 1)", x.of(1, p, 1), want[p][1]);
    }
    due(21, "became(4)", x.became(4), 3);
    due(21, "became(8), a CLOSE", x.became(8), 7);
  }

  private static void sameness() {
    SliceLoom x = loom(SET, 0, number(1), TELL, 0, name(0));
    add(x, SET, 0, number(1), TELL, 0, name(0));
    add(x, SET, 0, number(1));
    add(x, SET, 0, number(1), TELL, 0, name(1));
    add(x, SET, 1, number(1), TELL, 0, name(0));
    add(x, SET, 0, number(1), IF, 0, name(0));
    due(22, "same(0, 1)", x.same(0, 1), 1);
    due(22, "same(0, 0)", x.same(0, 0), 1);
    due(22, "same(0, 2)", x.same(0, 2), 0);
    due(22, "same(2, 0)", x.same(2, 0), 0);
    due(22, "another e", x.same(0, 3), 0);
    due(22, "another x", x.same(0, 4), 0);
    due(22, "another KIND, not WHOLE", x.same(0, 5), 0);
    due(22, "one that isn't WHOLE with itself", x.same(5, 5), 1);
    due(22, "same(0, 6)", x.same(0, 6), -2);
    due(22, "same(-1, 0)", x.same(-1, 0), -2);
    due(22, "same(6, 6)", x.same(6, 6), -2);
  }

  private static void besides() {
    SliceLoom x = loom(WHILE, 0, e(6, 0, 153), SET, 0, e(1, 0, 151), CLOSE, 0, 0, TELL, 0, name(0));
    add(x, WHILE, 0, e(6, 0, 155), SET, 0, e(1, 0, 151), CLOSE, 0, 0);
    add(x, SET, 0, number(1), SET, 0, number(3));
    due(23, "the same", x.beside(0, 1, 0, 1, 100), 0);
    due(23, "b has more", x.beside(0, 1, 1, 1, 100), 1);
    due(8, "ran(3), that of b", x.ran(3), 1);
    due(10, "value(0), that of b", x.value(0), 5);
    due(24, "step(1), that of b", x.step(1), 1);
    due(27, "count(2), that of b", x.count(2), 11);
    due(8, "ran(2), that of b", x.ran(2), 0);
    due(23, "a has more", x.beside(1, 1, 0, 1, 100), 2);
    due(8, "ran(0), to the end of b", x.ran(0), 8);
    due(8, "ran(2)", x.ran(2), 1);
    due(9, "told(0)", x.told(0), 3);
    due(23, "neither", x.beside(0, 1, 0, 3, 100), 3);
    due(8, "ran(0), to the end of b for all that", x.ran(0), 8);
    due(23, "a has none", x.beside(2, 0, 0, 1, 1), 2);
    due(23, "b has one, a none for want of fuel", x.beside(0, 3, 2, 0, 1), 1);
    due(8, "ran(1), where the fuel was spent", x.ran(1), 1);
    due(23, "no fuel, no numbers", x.beside(0, 0, 2, 0, 0), 0);
    due(23, "the first same, a has more", x.beside(0, 1, 2, 0, 100), 2);
    due(23, "other LINES of one program", x.beside(2, 0, 2, 1, 100), 3);
    due(23, "the fuel of each", x.beside(0, 1, 0, 1, 20000), 0);
  }

  private static void besideKinds() {
    SliceLoom x = loom(SET, 1, number(7), STORE, at(0, 150), number(7), TELL, 0, number(7), IF, 0, number(7), CLOSE, 0, 0,
        WHILE, 0, number(7), LEAVE, 1, 0, CLOSE, 0, 0, TELL, 0, number(0), GIVE, 0, 0);
    int[] sevens = {0, 1, 2, 3, 5};
    for (int p : sevens) {
      due(23, "7 at " + p, x.beside(0, 2, 0, p, 100), 0);
      due(23, "not 0 at " + p, x.beside(0, 8, 0, p, 100), 3);
    }
    x.start(0, 5);
    due(23, "0 of a LEAVE", x.beside(0, 8, 0, 6, 100), 0);
    due(23, "0 of a GIVE", x.beside(0, 9, 0, 8, 100), 0);
    add(x, STORE, at(0, 4), number(7));
    add(x, SET, 0, e(4, 151, 1));
    x.start(4, 9);
    due(23, "a REFUSED STORE has none", x.beside(0, 2, 1, 0, 100), 2);
    due(8, "ran(1)", x.ran(1), 0);
    due(23, "two that have none", x.beside(2, 0, 1, 0, 100), 0);
    due(23, "a REFUSED SET has none", x.beside(2, 0, 0, 2, 100), 1);
  }

  private static void steps() {
    SliceLoom x = loom(WHILE, 0, number(1), SET, 0, e(1, 0, 151), TELL, 0, e(4, 151, 1), CLOSE, 0, 0);
    due(7, "run", x.run(0, 9), 1);
    int[] want = {0, 1, 2};
    for (int i = 0; i < want.length; i++) {
      due(24, "step(" + i + ")", x.step(i), want[i]);
    }
    due(24, "step(3)", x.step(3), -1);
    due(24, "step(-1)", x.step(-1), -1);
    x.start(1, 1);
    x.run(0, 1000);
    due(24, "step(399)", x.step(399), 0);
    due(24, "step(398)", x.step(398), 2);
    due(24, "step(400)", x.step(400), -1);
    due(25, "trace(399)", x.trace(399), 1);
    due(25, "trace(400)", x.trace(400), -2);
    due(25, "trace(-1)", x.trace(-1), -2);
    due(26, "traced(399, 0)", x.traced(399, 0), 1);
    due(26, "traced(400, 0)", x.traced(400, 0), -2);
    due(26, "traced(0, 400)", x.traced(0, 400), -2);
    due(26, "traced(-1, 0)", x.traced(-1, 0), -2);
    due(26, "traced(0, -1)", x.traced(0, -1), -2);
    due(26, "traced(0, 399)", x.traced(0, 399), 0);
  }

  private static void traces() {
    SliceLoom x = loom(SET, 0, number(1), SET, 1, number(2), SET, 0, number(3), STORE, at(0, 0), name(1),
        STORE, at(0, 151), number(5), TELL, 0, e(8, 0, 153), TELL, 0, e(8, 0, 0), TELL, 0, e(8, 0, 150), STORE, at(1, 0), name(1));
    due(7, "run", x.run(0, 50), 0);
    due(25, "trace of a place and its NAME", x.trace(6), 4);
    atHand(25, "trace(6)", x, 1, 2, 3, 6);
    due(26, "the latest SET", x.traced(6, 2), 1);
    due(26, "an earlier SET", x.traced(6, 0), 0);
    due(26, "itself", x.traced(6, 6), 1);
    due(25, "the very place, by a number", x.trace(5), 4);
    atHand(25, "trace(5)", x, 1, 2, 3, 5);
    due(25, "a place where nothing was stored", x.trace(7), 1);
    due(25, "e and the place of a STORE", x.trace(8), 3);
    atHand(25, "trace(8)", x, 1, 2, 8);
    due(25, "a refused trace", x.trace(9), -2);
    atHand(25, "a refused trace", x, 1, 2, 8);
    SliceLoom first = loom(STORE, at(0, 150), number(5), TELL, 0, e(8, 0, 150));
    first.run(0, 50);
    due(26, "the first place of all", first.traced(1, 0), 1);
    SliceLoom y = loom(WHILE, 0, e(6, 0, 153), SET, 0, e(1, 0, 151), CLOSE, 0, 0, TELL, 0, name(0));
    y.run(0, 50);
    due(25, "STATEMENTS, not STEPS", y.trace(7), 3);
    due(26, "traced(7, 1)", y.traced(7, 1), 1);
    due(26, "the last WHILE, which decides nothing there", y.traced(7, 6), 0);
    due(25, "trace(6)", y.trace(6), 2);
  }

  private static void tracesOfRefused() {
    SliceLoom x = loom(SET, 0, number(4), SET, 1, number(2), STORE, at(0, 152), number(9), STORE, at(1, 0), e(8, 0, 1));
    due(7, "run", x.run(0, 50), 1);
    due(25, "a STORE that is REFUSED reads its NAMES and a place", x.trace(3), 4);
    atHand(25, "trace(3)", x, 0, 1, 2, 3);
    SliceLoom y = loom(SET, 0, number(4), STORE, at(0, 150), number(1), TELL, 0, e(8, 0, 0));
    due(7, "run", y.run(0, 50), 1);
    due(25, "a read of no place", y.trace(2), 2);
    atHand(25, "trace(2)", y, 0, 2);
    SliceLoom z = loom(SET, 0, number(4), SET, 1, number(0), SET, 2, e(4, 0, 1));
    due(7, "run", z.run(0, 50), 1);
    due(25, "a division by 0", z.trace(2), 3);
  }

  private static void tracesOfDeciders() {
    SliceLoom x = loom(WHILE, 0, e(6, 0, 153), IF, 0, e(7, 0, 152), LEAVE, 1, 0, CLOSE, 0, 0, SET, 0, e(1, 0, 151),
        TELL, 0, number(1), CLOSE, 0, 0, TELL, 0, number(2));
    x.run(0, 90);
    int[] want = {0, 1, 4, 5, 0, 1, 4, 5, 0, 1, 2, 7};
    for (int i = 0; i < want.length; i++) {
      due(24, "step(" + i + ")", x.step(i), want[i]);
    }
    due(12, "the TELL by the IF", x.hangs(0, 5, 1), 2);
    due(12, "the TELL by the LEAVE", x.hangs(0, 5, 2), 2);
    due(26, "the latest decider", x.traced(7, 5), 1);
    due(26, "a SET of which that hangs", x.traced(7, 2), 1);
    due(26, "a SET of which it doesn't", x.traced(7, 6), 0);
    due(26, "the LEAVE hangs on its IF", x.traced(10, 9), 1);
    due(25, "behind the WHILE", x.trace(11), 1);
    due(25, "trace(7)", x.trace(7), 4);
    atHand(25, "trace(7)", x, 0, 1, 4, 5);
  }

  private static void recordEmptied() {
    SliceLoom x = loom(TELL, 0, number(3));
    x.program();
    x.run(0, 9);
    due(3, "a refused LINE", x.line(0, 9, 0, 0), -2);
    due(3, "a LINE of another", x.line(1, TELL, 0, 0), 0);
    due(27, "count(2)", x.count(2), 1);
    due(24, "step(0)", x.step(0), 0);
    due(20, "cut", x.cut(0, 0), 2);
    due(27, "count(2) behind a cut", x.count(2), 1);
    due(3, "a LINE of it", x.line(0, TELL, 0, 0), 1);
    due(27, "count(2)", x.count(2), 0);
    due(24, "step(0)", x.step(0), -1);
    due(25, "trace(0)", x.trace(0), -2);
    due(26, "traced(0, 0)", x.traced(0, 0), -2);
    due(8, "ran(0)", x.ran(0), 1);
    due(9, "told(0)", x.told(0), 3);
    x.beside(0, 0, 1, 0, 9);
    due(27, "count(2)", x.count(2), 1);
    x.line(0, TELL, 0, 0);
    due(27, "count(2), of b", x.count(2), 1);
    x.line(1, IF, 0, 0);
    due(27, "count(2), of b", x.count(2), 0);
    x.line(1, CLOSE, 0, 0);
    due(7, "run", x.run(1, 9), 0);
    due(27, "count(2)", x.count(2), 2);
  }

  private static void counts() {
    SliceLoom x = loom(TELL, 0, 0, TELL, 0, 0);
    add(x, TELL, 0, 0);
    x.run(0, 9);
    x.slice(1, 0);
    due(27, "count(0)", x.count(0), 2);
    due(27, "count(1)", x.count(1), 3);
    due(27, "count(2)", x.count(2), 2);
    due(27, "count(3)", x.count(3), 1);
    due(27, "count(-1)", x.count(-1), -2);
    due(27, "count(4)", x.count(4), -2);
  }
}
