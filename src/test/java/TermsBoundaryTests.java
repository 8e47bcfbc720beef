/**
 * Each sentence of 'What it is' and of the Terms of the document that names a boundary case (too
 * small, too large, empty, full, a wrap-around, a refusal), in the document's order, with a test of
 * its own.
 */
public final class TermsBoundaryTests extends Boundary {
  public static void main(String[] args) {
    whatItIs();
    programsAndLines();
    expressions();
    kindsOfLines();
    behindLines();
    waysOn();
    runsOfTerms();
    readOn();
    decidedBy();
    cutsOfTerms();
    records();
    report();
  }

  // ---------------------------------------------------------------- What it is

  private static void whatItIs() {
    callsOfDearKinds();
    callsOfLines();
    callsOfSlices();
  }

  private static void callsOfDearKinds() {
    sentence("What it is", "An object is used for at most 512 calls after it has been made");
    SliceLoom x = new SliceLoom();
    for (int i = 0; i < 16; i++) {
      is("program()", x.program(), i);
    }
    is("line", x.line(0, WHILE, 0, number(1)), 0);
    for (int i = 1; i < 59; i++) {
      is("line", x.line(0, STORE, at(i % 3, 150 + i % 4), e(1, i % 8, 7)), i);
    }
    is("line", x.line(0, CLOSE, 0, 0), 59);
    for (int call = 77; call <= 510; call++) {
      is("call " + call + ", beside(0, 58, 0, 58, 20000)", x.beside(0, 58, 0, 58, 20000), 0);
    }
    is("call 511, traced(399, 354)", x.traced(399, 354), 1);
    is("call 512, ran(0)", x.ran(0), 20000);
  }

  private static void callsOfLines() {
    sentence("What it is", "An object is used for at most 512 calls after it has been made");
    SliceLoom x = new SliceLoom();
    for (int i = 0; i < 16; i++) {
      is("program()", x.program(), i);
    }
    for (int i = 0; i < 496; i++) {
      is("call " + (i + 17) + ", line", x.line(i % 16, TELL, 0, 0), i / 16);
    }
  }

  private static void callsOfSlices() {
    sentence("What it is", "An object is used for at most 512 calls after it has been made");
    SliceLoom x = new SliceLoom();
    x.program();
    x.line(0, SET, 0, number(1));
    for (int i = 1; i < 60; i++) {
      x.line(0, SET, i % 2, name(1 - i % 2));
    }
    for (int call = 62; call <= 511; call += 3) {
      is("call " + call + ", slice(0, 59)", x.slice(0, 59), 60);
      is("call " + (call + 1) + ", onward(0, 0)", x.onward(0, 0), 60);
      is("call " + (call + 2) + ", between(0, 59, 0)", x.between(0, 59, 0), 60);
    }
    is("call 512, far(0, 59, 0)", x.far(0, 59, 0), 59);
  }

  // ---------------------------------------------------------------- Terms 1, programs and lines

  private static void programsAndLines() {
    sixteenPrograms();
    sixtyLines();
    eightNames();
    threeRows();
  }

  private static void sixteenPrograms() {
    sentence("Terms 1", "PROGRAMS are numbered from 0, 16 at most");
    SliceLoom x = new SliceLoom();
    for (int i = 0; i < 16; i++) {
      is("program()", x.program(), i);
    }
    is("program()", x.program(), -2);
    is("program()", x.program(), -2);
    is("count(0)", x.count(0), 16);
    is("line of the first", x.line(0, TELL, 0, number(3)), 0);
    is("line of the last", x.line(15, TELL, 0, number(4)), 0);
    is("run of the last", x.run(15, 9), 0);
    is("told(0)", x.told(0), 4);
    is("run of the first", x.run(0, 9), 0);
    is("told(0)", x.told(0), 3);
    is("line of one beyond", x.line(16, TELL, 0, 0), -2);
  }

  private static void sixtyLines() {
    sentence("Terms 1", "each is a row of LINES, numbered from 0, 60 at most");
    SliceLoom x = new SliceLoom();
    x.program();
    x.program();
    for (int program = 1; program >= 0; program--) {
      for (int i = 0; i < 60; i++) {
        is("line", x.line(program, TELL, 0, number(i % 51)), i);
      }
      is("line", x.line(program, TELL, 0, 0), -2);
    }
    is("count(1)", x.count(1), 120);
    is("of(0, 59, 2)", x.of(0, 59, 2), number(8));
    is("of(1, 59, 2)", x.of(1, 59, 2), number(8));
    is("run", x.run(0, 60), 0);
    is("told(59)", x.told(59), 8);
    is("step(59)", x.step(59), 59);
  }

  private static void eightNames() {
    sentence("Terms 1", "NAMES 0 to 7 hold ints");
    int[] held = {MIN, MAX, 0, -1, 1, MIN + 1, MAX - 1, 65536};
    for (int name = 0; name < 8; name++) {
      for (int v : held) {
        SliceLoom x = loom(SET, (name + 1) % 8, name(name), TELL, 0, name((name + 1) % 8));
        x.start(name, v);
        is("run", x.run(0, 9), 0);
        is("value(" + name + ")", x.value(name), v);
        is("value of the next", x.value((name + 1) % 8), v);
        is("told(0)", x.told(0), v);
      }
      fits(SET, name, 0, true);
      fits(TELL, 0, name(name), true);
    }
    fits(SET, 8, 0, false);
    fits(SET, -1, 0, false);
    fits(TELL, 0, name(8), false);
  }

  private static void threeRows() {
    sentence("Terms 1", "ROWS 0 to 2 have 4 places each, 0 to 3, with ints");
    int[] held = {MIN, MAX, -7};
    for (int row = 0; row < 3; row++) {
      for (int place = 0; place < 4; place++) {
        SliceLoom x = loom(STORE, at(row, 150 + place), name(7), TELL, 0, e(8, row, 150 + place));
        x.start(7, held[row]);
        is("run", x.run(0, 9), 0);
        is("told(0)", x.told(0), held[row]);
        for (int i = 0; i < 12; i++) {
          int want = i == 4 * row + place ? held[row] : 0;
          is("place(" + i / 4 + ", " + i % 4 + ")", x.place(i / 4, i % 4), want);
        }
      }
    }
    SliceLoom x = new SliceLoom();
    x.program();
    for (int i = 0; i < 12; i++) {
      lines(x, 0, STORE, at(i / 4, 150 + i % 4), number(i + 1));
    }
    x.run(0, 12);
    for (int i = 0; i < 12; i++) {
      is("place(" + i / 4 + ", " + i % 4 + ")", x.place(i / 4, i % 4), i + 1);
    }
  }

  // ---------------------------------------------------------------- Terms 1, expressions

  private static void expressions() {
    operands();
    operandsThatAreNumbers();
    sortsTold();
    sortAlone();
    sortsThatWrap();
    divisionsTowardsZero();
    divisionsByZero();
    less();
    alike();
    placesRead();
    rowsRead();
  }

  /** What a SORT of two numbers comes to. */
  private static void comesTo(int sort, int a, int b, int want) {
    SliceLoom x = loom(TELL, 0, e(sort, 5, sort == 0 ? 0 : 6));
    x.start(5, a);
    x.start(6, b);
    is("run of SORT " + sort + " of " + a + " and " + b, x.run(0, 9), 0);
    is("what SORT " + sort + " of " + a + " and " + b + " tells", x.told(0), want);
    is("ran(2)", x.ran(2), 1);
  }

  private static void isRefused(int sort, int a, int b) {
    SliceLoom x = loom(TELL, 0, e(sort, 5, 6), TELL, 0, 0);
    x.start(5, a);
    x.start(6, b);
    is("run of SORT " + sort + " of " + a + " and " + b, x.run(0, 9), 1);
    is("ran(1)", x.ran(1), 0);
    is("ran(2)", x.ran(2), 0);
  }

  private static boolean isOperand(int v) {
    return v >= 0 && v <= 7 || v >= 100 && v <= 200;
  }

  private static void operands() {
    sentence("Terms 1", "An OPERAND is a NAME (0 to 7) or a number (100 to 200: that less 150).");
    for (int v = 0; v <= 255; v++) {
      fits(TELL, 0, e(0, v, 0), isOperand(v));
      for (int sort = 1; sort <= 7; sort++) {
        fits(TELL, 0, e(sort, v, 7), isOperand(v));
        fits(TELL, 0, e(sort, 200, v), isOperand(v));
      }
      fits(TELL, 0, e(8, 2, v), isOperand(v));
      fits(STORE, at(2, v), 0, isOperand(v));
    }
    fits(STORE, at(0, 256), 0, false);
    fits(STORE, at(0, 356), 0, false);
    fits(STORE, at(0, -1), 0, false);
  }

  private static void operandsThatAreNumbers() {
    sentence("Terms 1", "a number (100 to 200: that less 150)");
    for (int v = 100; v <= 200; v++) {
      SliceLoom x = loom(TELL, 0, e(0, v, 0), TELL, 0, e(1, v, 150), TELL, 0, e(1, 150, v));
      is("run", x.run(0, 9), 0);
      tellings(x, v - 150, v - 150, v - 150);
    }
  }

  private static void sortsTold() {
    sentence("Terms 1", "An EXPRESSION is a SORT with two OPERANDS a and b, told as 65536 SORT + 256 a + b");
    int[] kinds = {SET, STORE, TELL, IF, WHILE};
    for (int kind : kinds) {
      for (int sort = 0; sort <= 8; sort++) {
        fits(kind, 0, e(sort, 0, 0), true);
      }
      int[] wrongs = {-1, -256, -65536, e(9, 0, 0), e(10, 0, 0), e(16, 0, 0), e(255, 0, 0), e(256, 0, 0),
        e(257, 0, 0), e(32767, 0, 0), e(-32768, 0, 0), e(-1, 0, 0), e(-8, 0, 0), MIN, MIN + 1, MAX, e(8, 255, 255)};
      for (int wrong : wrongs) {
        fits(kind, 0, wrong, false);
      }
    }
    fits(TELL, 0, e(7, 200, 200), true);
    fits(TELL, 0, e(8, 2, 200), true);
  }

  private static void sortAlone() {
    sentence("Terms 1", "0 a (b is 0)");
    for (int b = 1; b <= 255; b++) {
      fits(TELL, 0, e(0, 150, b), false);
    }
    comesTo(0, MIN, 5, MIN);
    comesTo(0, MAX, 5, MAX);
    comesTo(0, 0, 5, 0);
    SliceLoom x = loom(TELL, 0, e(0, 155, 0));
    x.start(0, 3);
    x.run(0, 9);
    is("told(0), which NAME 0 has no part in", x.told(0), 5);
  }

  private static void sortsThatWrap() {
    sentence("Terms 1", "1 a + b, 2 a - b, 3 a * b (these wrap)");
    comesTo(1, MAX, 1, MIN);
    comesTo(1, MIN, -1, MAX);
    comesTo(1, MAX, MAX, -2);
    comesTo(1, MIN, MIN, 0);
    comesTo(2, MIN, 1, MAX);
    comesTo(2, MAX, -1, MIN);
    comesTo(2, 0, MIN, MIN);
    comesTo(2, MAX, MIN, -1);
    comesTo(3, 65536, 65536, 0);
    comesTo(3, 65536, 32768, MIN);
    comesTo(3, MAX, MAX, 1);
    comesTo(3, MIN, -1, MIN);
    comesTo(3, MIN, MIN, 0);
    comesTo(3, MAX, 2, -2);
    comesTo(3, 46341, 46341, -2147479015);
  }

  private static void divisionsTowardsZero() {
    sentence("Terms 1", "4 a / b, 5 the rest of that (both as for ints, towards 0");
    int[][] wants = {
      {7, 2, 3, 1}, {-7, 2, -3, -1}, {7, -2, -3, 1}, {-7, -2, 3, -1}, {1, 2, 0, 1}, {-1, 2, 0, -1}, {1, -2, 0, 1},
      {0, 5, 0, 0}, {0, -5, 0, 0}, {MIN, -1, MIN, 0}, {MIN, 1, MIN, 0}, {MAX, -1, -MAX, 0}, {MIN, MIN, 1, 0},
      {MIN, MAX, -1, -1}, {MAX, MIN, 0, MAX}, {-1, MIN, 0, -1}, {MIN, 2, -1073741824, 0}, {MAX, 2, 1073741823, 1},
    };
    for (int[] want : wants) {
      comesTo(4, want[0], want[1], want[2]);
      comesTo(5, want[0], want[1], want[3]);
    }
  }

  private static void divisionsByZero() {
    sentence("Terms 1", "REFUSED by 0");
    int[] divided = {0, 1, -1, MIN, MAX};
    for (int v : divided) {
      isRefused(4, v, 0);
      isRefused(5, v, 0);
    }
    int[] kinds = {SET, STORE, TELL, IF, WHILE};
    for (int kind : kinds) {
      for (int sort = 4; sort <= 5; sort++) {
        SliceLoom x = loom(kind, kind == STORE ? at(0, 150) : 0, e(sort, 151, 150));
        if (kind == IF || kind == WHILE) {
          lines(x, 0, TELL, 0, 0, CLOSE, 0, 0);
        }
        is("run of KIND " + kind, x.run(0, 9), 1);
        is("ran(0)", x.ran(0), 1);
        is("ran(1)", x.ran(1), 0);
      }
    }
  }

  private static void less() {
    sentence("Terms 1", "6 1 if a is less than b, else 0");
    int[][] wants = {{3, 4, 1}, {4, 4, 0}, {5, 4, 0}, {-1, 0, 1}, {0, 0, 0}, {0, -1, 0}, {MIN, MAX, 1},
      {MAX, MIN, 0}, {MIN, 1, 1}, {1, MIN, 0}, {MAX, -1, 0}, {-2, MAX, 1}, {MIN, MIN, 0}, {MAX, MAX, 0},
      {MIN, MIN + 1, 1}, {MAX - 1, MAX, 1}};
    for (int[] want : wants) {
      comesTo(6, want[0], want[1], want[2]);
    }
  }

  private static void alike() {
    sentence("Terms 1", "7 1 if they are the same, else 0");
    int[][] wants = {{4, 4, 1}, {4, 5, 0}, {5, 4, 0}, {0, 0, 1}, {MIN, MIN, 1}, {MAX, MAX, 1}, {MIN, MAX, 0},
      {MIN, 0, 0}, {0, MIN, 0}, {1, -1, 0}, {-1, -1, 1}, {1, 257, 0}, {1, 65537, 0}};
    for (int[] want : wants) {
      comesTo(7, want[0], want[1], want[2]);
    }
  }

  private static void placesRead() {
    sentence("Terms 1", "has at place b (REFUSED, if there is none such)");
    int[] none = {-1, 4, 5, 8, -4, 12, -5, 50, 256, 65536, MIN, MAX, MIN + 1, MAX - 3};
    for (int row = 0; row < 3; row++) {
      for (int place : none) {
        SliceLoom x = loom(TELL, 0, e(8, row, 6));
        x.start(6, place);
        is("run of ROW " + row + " at " + place, x.run(0, 9), 1);
        is("ran(2)", x.ran(2), 0);
      }
      for (int place = 0; place < 4; place++) {
        SliceLoom x = loom(STORE, at(row, 6), number(9), TELL, 0, e(8, row, 6));
        x.start(6, place);
        is("run of ROW " + row + " at " + place, x.run(0, 9), 0);
        is("told(0)", x.told(0), 9);
      }
      SliceLoom x = loom(TELL, 0, e(8, row, 149));
      is("run of ROW " + row + " at the number -1", x.run(0, 9), 1);
      SliceLoom y = loom(TELL, 0, e(8, row, 154));
      is("run of ROW " + row + " at the number 4", y.run(0, 9), 1);
    }
  }

  private static void rowsRead() {
    sentence("Terms 1", "8 what ROW a (0 to 2)");
    for (int a = 0; a <= 255; a++) {
      fits(TELL, 0, e(8, a, 150), a <= 2);
    }
    SliceLoom x = loom(STORE, at(0, 150), number(1), STORE, at(1, 150), number(2), STORE, at(2, 150), number(3),
        TELL, 0, e(8, 0, 150), TELL, 0, e(8, 1, 150), TELL, 0, e(8, 2, 150));
    x.start(0, 40);
    x.start(1, 41);
    x.start(2, 42);
    is("run", x.run(0, 9), 0);
    tellings(x, 1, 2, 3);
  }

  // ---------------------------------------------------------------- Terms 1, kinds of lines

  private static void kindsOfLines() {
    kinds();
    namesSet();
    placesStored();
    expressionWorkedFirst();
    noSuchPlaceStored();
    latestPartCloses();
    leavesAround();
    leavesPastOtherParts();
    nothingWhereNotNamed();
    statementsAndOthers();
    wholePrograms();
  }

  private static void kinds() {
    sentence("Terms 1", "LINES are of a KIND, with an x and an EXPRESSION e");
    int[] none = {-1, -8, 9, 10, 16, 256, MIN, MAX};
    for (int kind : none) {
      fits(kind, 0, 0, false);
      fits(kind, 1, 0, false);
    }
    int[] taken = {SET, STORE, TELL, IF, WHILE, GIVE};
    for (int kind : taken) {
      fits(kind, 0, 0, true);
    }
  }

  private static void namesSet() {
    sentence("Terms 1", "0 SET: NAME x becomes e.");
    int[] none = {-1, -8, 8, 9, 16, 100, 150, 200, 256, MIN, MAX};
    for (int x : none) {
      fits(SET, x, 0, false);
    }
    for (int name = 0; name < 8; name++) {
      SliceLoom x = loom(SET, name, number(9));
      x.run(0, 9);
      for (int other = 0; other < 8; other++) {
        is("value(" + other + ") behind SET of " + name, x.value(other), other == name ? 9 : 0);
      }
    }
  }

  private static void placesStored() {
    sentence("Terms 1", "1 STORE: x is ROW + 4 times an OPERAND");
    for (int x = -1100; x <= 1100; x++) {
      fits(STORE, x, 0, x >= 0 && x % 4 < 3 && isOperand(x / 4));
    }
    int[] none = {MIN, MIN + 1, MIN + 600, MAX, MAX - 3, 1 << 10, (1 << 10) + 600, 1 << 30, (1 << 30) + 600};
    for (int x : none) {
      fits(STORE, x, 0, false);
    }
  }

  private static void expressionWorkedFirst() {
    sentence("Terms 1", "ROW at the place that the OPERAND tells becomes e; e is worked first");
    SliceLoom x = loom(STORE, at(0, 153), number(7), STORE, at(1, 4), e(8, 0, 153));
    x.start(4, 4);
    is("run", x.run(0, 9), 1);
    is("ran(1)", x.ran(1), 1);
    is("traced(1, 0), which e had read when the place was asked for", x.traced(1, 0), 1);
    SliceLoom y = loom(STORE, at(0, 150), number(2), STORE, at(0, 150), e(8, 0, 150), TELL, 0, e(8, 0, 150));
    is("run", y.run(0, 9), 0);
    is("told(0)", y.told(0), 2);
  }

  private static void noSuchPlaceStored() {
    sentence("Terms 1", "e is worked first (REFUSED, if there is no such place)");
    int[] none = {-1, 4, 5, 8, -4, 12, 256, MIN, MAX, MIN + 1, MAX - 3};
    for (int row = 0; row < 3; row++) {
      for (int place : none) {
        SliceLoom x = loom(STORE, at(row, 6), number(9), TELL, 0, 0);
        x.start(6, place);
        is("run of a STORE at " + place, x.run(0, 9), 1);
        is("ran(0)", x.ran(0), 1);
        is("ran(1)", x.ran(1), 0);
        for (int i = 0; i < 12; i++) {
          is("place(" + i / 4 + ", " + i % 4 + ")", x.place(i / 4, i % 4), 0);
        }
      }
      SliceLoom below = loom(STORE, at(row, 149), number(9));
      is("run of a STORE at the number -1", below.run(0, 9), 1);
      SliceLoom above = loom(STORE, at(row, 154), number(9));
      is("run of a STORE at the number 4", above.run(0, 9), 1);
    }
  }

  private static void latestPartCloses() {
    sentence("Terms 1", "6 CLOSE: ends the part of the latest IF or WHILE that BEGAN and has no CLOSE yet");
    SliceLoom x = loom(IF, 0, 0, WHILE, 0, 0, WHILE, 0, 0, CLOSE, 0, 0, CLOSE, 0, 0);
    is("an ELSE of the IF, the WHILES being closed", x.line(0, ELSE, 0, 0), 5);
    lines(x, 0, CLOSE, 0, 0);
    is("BEHIND LINE 2", x.of(0, 2, 3), 2);
    is("BEHIND LINE 3", x.of(0, 3, 3), 1);
    is("BEHIND LINE 4", x.of(0, 4, 3), -1);
    SliceLoom y = loom(WHILE, 0, 0, IF, 0, 0, CLOSE, 0, 0);
    is("an ELSE of the WHILE, the IF being closed", y.line(0, ELSE, 0, 0), -2);
    is("a CLOSE of the WHILE", y.line(0, CLOSE, 0, 0), 3);
    is("a CLOSE of none", y.line(0, CLOSE, 0, 0), -2);
  }

  private static void leavesAround() {
    sentence("Terms 1", "7 LEAVE: x is 1 or more, up to how many WHILES are around it.");
    for (int whiles = 0; whiles <= 12; whiles++) {
      for (int v = -1; v <= 14; v++) {
        SliceLoom x = new SliceLoom();
        x.program();
        many(x, 0, whiles, WHILE, 0, 0);
        boolean fits = v >= 1 && v <= whiles;
        is("LEAVE " + v + " in " + whiles + " WHILES", x.line(0, LEAVE, v, 0), fits ? whiles : -2);
      }
    }
    SliceLoom x = loom(WHILE, 0, 0);
    is("LEAVE MIN", x.line(0, LEAVE, MIN, 0), -2);
    is("LEAVE MAX", x.line(0, LEAVE, MAX, 0), -2);
    is("LEAVE 257", x.line(0, LEAVE, 257, 0), -2);
    is("LEAVE -1", x.line(0, LEAVE, -1, 0), -2);
  }

  private static void leavesPastOtherParts() {
    sentence("Terms 1", "up to how many WHILES are around it");
    SliceLoom ifs = new SliceLoom();
    ifs.program();
    many(ifs, 0, 12, IF, 0, 0);
    is("LEAVE 1 in 12 IFS", ifs.line(0, LEAVE, 1, 0), -2);
    SliceLoom x = loom(WHILE, 0, 0, CLOSE, 0, 0);
    is("LEAVE behind a closed WHILE", x.line(0, LEAVE, 1, 0), -2);
    lines(x, 0, IF, 0, 0, WHILE, 0, 0, IF, 0, 0);
    is("LEAVE 2 of an open and a closed one", x.line(0, LEAVE, 2, 0), -2);
    is("LEAVE 1", x.line(0, LEAVE, 1, 0), 5);
    lines(x, 0, ELSE, 0, 0);
    is("LEAVE 1 behind an ELSE", x.line(0, LEAVE, 1, 0), 7);
    is("LEAVE 2 behind an ELSE", x.line(0, LEAVE, 2, 0), -2);
    lines(x, 0, CLOSE, 0, 0, CLOSE, 0, 0);
    is("LEAVE 1 when just the IF is left", x.line(0, LEAVE, 1, 0), -2);
  }

  private static void nothingWhereNotNamed() {
    sentence("Terms 1", "x is 0 where it is not named, e likewise.");
    int[] some = {1, -1, 7, 100, 256, 65536, 150 * 256, MIN, MAX};
    for (int v : some) {
      fits(TELL, v, 0, false);
      fits(IF, v, 0, false);
      fits(WHILE, v, 0, false);
      fits(GIVE, v, 0, false);
      fits(GIVE, 0, v, false);
      SliceLoom x = loom(WHILE, 0, 0, IF, 0, 0);
      is("ELSE with x " + v, x.line(0, ELSE, v, 0), -2);
      is("ELSE with e " + v, x.line(0, ELSE, 0, v), -2);
      is("CLOSE with x " + v, x.line(0, CLOSE, v, 0), -2);
      is("CLOSE with e " + v, x.line(0, CLOSE, 0, v), -2);
      is("LEAVE with e " + v, x.line(0, LEAVE, 1, v), -2);
      is("LEAVE without", x.line(0, LEAVE, 1, 0), 2);
      is("ELSE without", x.line(0, ELSE, 0, 0), 3);
      is("CLOSE without", x.line(0, CLOSE, 0, 0), 4);
      is("GIVE without", x.line(0, GIVE, 0, 0), 5);
    }
  }

  private static void statementsAndOthers() {
    sentence("Terms 1", "STATEMENTS are all LINES but ELSE and CLOSE.");
    SliceLoom x = loom(SET, 0, 0, STORE, 0, 0, TELL, 0, 0, IF, 0, 0, ELSE, 0, 0, CLOSE, 0, 0,
        WHILE, 0, 0, LEAVE, 1, 0, CLOSE, 0, 0, GIVE, 0, 0);
    boolean[] statements = {true, true, true, true, false, false, true, true, false, true};
    for (int p = 0; p < statements.length; p++) {
      is("far(0, " + p + ", " + p + ")", x.far(0, p, p), statements[p] ? 0 : -2);
    }
    SliceLoom y = loom(GIVE, 0, 0, IF, 0, 0, ELSE, 0, 0, CLOSE, 0, 0, WHILE, 0, 0, CLOSE, 0, 0);
    is("never(0), which has STATEMENTS alone", y.never(0), 2);
    atHand(y, 1, 4);
  }

  private static void wholePrograms() {
    sentence("Terms 1", "A PROGRAM is WHOLE if each part that BEGAN has its CLOSE.");
    SliceLoom x = new SliceLoom();
    x.program();
    is("whole of no LINES", x.whole(0), 1);
    for (int i = 0; i < 12; i++) {
      lines(x, 0, i % 2 == 0 ? WHILE : IF, 0, 0);
      is("whole of " + (i + 1) + " open parts", x.whole(0), 0);
    }
    for (int i = 11; i > 0; i--) {
      lines(x, 0, CLOSE, 0, 0);
      is("whole of " + i + " open parts", x.whole(0), 0);
    }
    lines(x, 0, CLOSE, 0, 0);
    is("whole of no open parts", x.whole(0), 1);
    lines(x, 0, IF, 0, 0);
    is("whole of one part more", x.whole(0), 0);
    lines(x, 0, ELSE, 0, 0);
    is("whole behind an ELSE", x.whole(0), 0);
  }

  // ---------------------------------------------------------------- Terms 1, BEHIND

  private static void behindLines() {
    behindIsNext();
    behindCloseOfIf();
    behindElse();
    behindCloseOfWhile();
    behindLast();
  }

  private static void behindIsNext() {
    sentence("Terms 1", "BEHIND a LINE p, in order: LINE p + 1");
    behindAre(loom(SET, 0, 0, STORE, 0, 0, TELL, 0, 0, GIVE, 0, 0, IF, 0, 0, TELL, 0, 0, ELSE, 0, 0, WHILE, 0, 0,
        LEAVE, 1, 0, TELL, 0, 0, CLOSE, 0, 0, TELL, 0, 0, CLOSE, 0, 0, TELL, 0, 0),
        1, 2, 3, 4, 5, 13, 7, 8, 9, 7, 11, 13, 13, -1);
  }

  private static void behindCloseOfIf() {
    sentence("Terms 1", "but if that is a CLOSE of an IF: what is BEHIND that");
    behindAre(loom(IF, 0, 0, CLOSE, 0, 0, TELL, 0, 0), 2, 2, -1);
    behindAre(loom(IF, 0, 0, TELL, 0, 0, CLOSE, 0, 0), 1, -1, -1);
    behindAre(loom(IF, 0, 0, IF, 0, 0, TELL, 0, 0, CLOSE, 0, 0, CLOSE, 0, 0, TELL, 0, 0), 1, 2, 5, 5, 5, -1);
    behindAre(loom(WHILE, 0, 0, IF, 0, 0, IF, 0, 0, CLOSE, 0, 0, CLOSE, 0, 0, CLOSE, 0, 0), 1, 2, 0, 0, 0, -1);
    SliceLoom deep = new SliceLoom();
    deep.program();
    many(deep, 0, 12, IF, 0, 0);
    many(deep, 0, 1, SET, 0, 0);
    many(deep, 0, 12, CLOSE, 0, 0);
    for (int p = 12; p < 25; p++) {
      is("of(0, " + p + ", 3), 12 deep", deep.of(0, p, 3), -1);
    }
    many(deep, 0, 1, TELL, 0, 0);
    for (int p = 12; p < 25; p++) {
      is("of(0, " + p + ", 3), 12 deep", deep.of(0, p, 3), 25);
    }
  }

  private static void behindElse() {
    sentence("Terms 1", "if it is an ELSE: what is BEHIND the CLOSE of its IF");
    behindAre(loom(IF, 0, 0, ELSE, 0, 0, CLOSE, 0, 0), -1, -1, -1);
    behindAre(loom(IF, 0, 0, ELSE, 0, 0, TELL, 0, 0, CLOSE, 0, 0, TELL, 0, 0), 4, 2, 4, 4, -1);
    behindAre(loom(IF, 0, 0, TELL, 0, 0, ELSE, 0, 0, TELL, 0, 0, CLOSE, 0, 0), 1, -1, 3, -1, -1);
    behindAre(loom(IF, 0, 0, IF, 0, 0, TELL, 0, 0, ELSE, 0, 0, TELL, 0, 0, CLOSE, 0, 0, ELSE, 0, 0, TELL, 0, 0,
        CLOSE, 0, 0, TELL, 0, 0), 1, 2, 9, 4, 9, 9, 7, 9, 9, -1);
    behindAre(loom(WHILE, 0, 0, IF, 0, 0, ELSE, 0, 0, IF, 0, 0, ELSE, 0, 0, CLOSE, 0, 0, CLOSE, 0, 0, CLOSE, 0, 0),
        1, 0, 3, 0, 0, 0, 0, -1);
  }

  private static void behindCloseOfWhile() {
    sentence("Terms 1", "if it is the CLOSE of a WHILE: that WHILE");
    behindAre(loom(WHILE, 0, 0, CLOSE, 0, 0), 0, -1);
    behindAre(loom(TELL, 0, 0, WHILE, 0, 0, TELL, 0, 0, CLOSE, 0, 0), 1, 2, 1, -1);
    behindAre(loom(WHILE, 0, 0, WHILE, 0, 0, CLOSE, 0, 0, CLOSE, 0, 0), 1, 1, 0, -1);
    behindAre(loom(IF, 0, 0, WHILE, 0, 0, LEAVE, 1, 0, CLOSE, 0, 0, ELSE, 0, 0, CLOSE, 0, 0, TELL, 0, 0),
        1, 2, 1, 6, 6, 6, -1);
  }

  private static void behindLast() {
    sentence("Terms 1", "if there is none: the END");
    behindAre(loom(TELL, 0, 0), -1);
    SliceLoom x = new SliceLoom();
    x.program();
    many(x, 0, 60, TELL, 0, 0);
    is("of(0, 58, 3) of 60 LINES", x.of(0, 58, 3), 59);
    is("of(0, 59, 3) of 60 LINES", x.of(0, 59, 3), -1);
    SliceLoom y = new SliceLoom();
    y.program();
    many(y, 0, 58, TELL, 0, 0);
    lines(y, 0, WHILE, 0, 0, CLOSE, 0, 0);
    is("of(0, 58, 3), a WHILE at the end of 60 LINES", y.of(0, 58, 3), 58);
    is("of(0, 59, 3), its CLOSE", y.of(0, 59, 3), -1);
  }

  // ---------------------------------------------------------------- Terms 1, WAYS

  private static void waysOn() {
    waysOfPlainOnes();
    waysOfIf();
    waysOfIfWithNothing();
    waysOfWhile();
    waysOfLeave();
    waysOfLeaveTwelveDeep();
    waysOfGive();
    whereRunsBegin();
  }

  private static void waysOfPlainOnes() {
    sentence("Terms 1", "of SET, STORE, TELL to what is BEHIND it");
    int[] numbers = {0, 1, -1};
    for (int v : numbers) {
      SliceLoom x = loom(SET, 0, number(v), STORE, at(0, 150), number(v), TELL, 0, number(v), TELL, 0, number(v));
      is("run", x.run(0, 9), 0);
      steps(x, 0, 1, 2, 3);
    }
    SliceLoom y = loom(IF, 0, number(1), SET, 0, 0, ELSE, 0, 0, TELL, 0, 0, CLOSE, 0, 0, TELL, 0, 0);
    is("run", y.run(0, 9), 0);
    steps(y, 0, 1, 5);
  }

  private static void waysOfIf() {
    sentence("Terms 1",
        "Of an IF: to what is BEHIND it (if its e is not 0), or to what is BEHIND its ELSE, or without one "
            + "BEHIND its CLOSE.");
    int[] numbers = {0, 1, -1, 2, MIN, MAX};
    for (int v : numbers) {
      SliceLoom x = loom(IF, 0, name(0), TELL, 0, 0, ELSE, 0, 0, TELL, 0, 0, CLOSE, 0, 0, TELL, 0, 0);
      x.start(0, v);
      is("run", x.run(0, 9), 0);
      steps(x, 0, v != 0 ? 1 : 3, 5);
      SliceLoom y = loom(IF, 0, name(0), TELL, 0, 0, CLOSE, 0, 0);
      y.start(0, v);
      is("run", y.run(0, 9), 0);
      if (v != 0) {
        steps(y, 0, 1);
      } else {
        steps(y, 0);
      }
    }
  }

  private static void waysOfIfWithNothing() {
    sentence("Terms 1", "(BEHIND an IF that has nothing within, or just an ELSE, is what the rule says.)");
    for (int v = 0; v <= 1; v++) {
      SliceLoom x = loom(IF, 0, number(v), CLOSE, 0, 0, TELL, 0, 0);
      is("run", x.run(0, 9), 0);
      steps(x, 0, 2);
      SliceLoom y = loom(IF, 0, number(v), ELSE, 0, 0, CLOSE, 0, 0, TELL, 0, 0);
      is("run", y.run(0, 9), 0);
      steps(y, 0, 3);
      SliceLoom ends = loom(IF, 0, number(v), ELSE, 0, 0, CLOSE, 0, 0);
      is("run", ends.run(0, 1), 0);
      steps(ends, 0);
      SliceLoom turns = loom(WHILE, 0, e(6, 0, 151), SET, 0, number(1), IF, 0, number(v), ELSE, 0, 0, CLOSE, 0, 0,
          CLOSE, 0, 0);
      is("run", turns.run(0, 9), 0);
      steps(turns, 0, 1, 2, 0);
    }
    SliceLoom z = loom(IF, 0, number(1), ELSE, 0, 0, TELL, 0, 0, CLOSE, 0, 0, TELL, 0, 0);
    is("run", z.run(0, 9), 0);
    steps(z, 0, 4);
    SliceLoom other = loom(IF, 0, number(0), TELL, 0, 0, ELSE, 0, 0, CLOSE, 0, 0, TELL, 0, 0);
    is("run", other.run(0, 9), 0);
    steps(other, 0, 4);
  }

  private static void waysOfWhile() {
    sentence("Terms 1",
        "Of a WHILE: to what is BEHIND it (if its e is not 0; that can be itself), or to what is BEHIND its "
            + "CLOSE.");
    int[] numbers = {1, -1, MIN, MAX};
    for (int v : numbers) {
      SliceLoom x = loom(WHILE, 0, name(0), CLOSE, 0, 0, TELL, 0, 0);
      x.start(0, v);
      is("run of a WHILE that has nothing within", x.run(0, 4), 2);
      steps(x, 0, 0, 0, 0);
      is("ran(1)", x.ran(1), 0);
      x.start(0, 0);
      is("run", x.run(0, 4), 0);
      steps(x, 0, 2);
      SliceLoom y = loom(WHILE, 0, name(0), SET, 0, number(0), CLOSE, 0, 0);
      y.start(0, v);
      is("run", y.run(0, 9), 0);
      steps(y, 0, 1, 0);
    }
    SliceLoom z = loom(WHILE, 0, number(0), TELL, 0, 0, CLOSE, 0, 0);
    is("run of a WHILE of 0 at the end", z.run(0, 1), 0);
    steps(z, 0);
  }

  private static void waysOfLeave() {
    sentence("Terms 1",
        "Of LEAVE: to what is BEHIND the CLOSE of the x-th WHILE around it, the innermost being the first.");
    int[][] want = {{}, {0, 1, 2, 3, 4, 9}, {0, 1, 2, 3, 4, 11}, {0, 1, 2, 3, 4, 13}};
    for (int x = 1; x <= 3; x++) {
      SliceLoom loom = loom(WHILE, 0, number(1), WHILE, 0, number(1), WHILE, 0, number(1), IF, 0, number(1),
          LEAVE, x, 0, TELL, 0, 0, CLOSE, 0, 0, TELL, 0, 0, CLOSE, 0, 0,
          GIVE, 0, 0, CLOSE, 0, 0, GIVE, 0, 0, CLOSE, 0, 0, TELL, 0, 0);
      is("run", loom.run(0, 50), 0);
      steps(loom, want[x]);
    }
    SliceLoom again = loom(WHILE, 0, e(6, 0, 152), SET, 0, e(1, 0, 151), WHILE, 0, number(1), LEAVE, 1, 0,
        CLOSE, 0, 0, CLOSE, 0, 0);
    is("run of a LEAVE back to the outer WHILE", again.run(0, 50), 0);
    steps(again, 0, 1, 2, 3, 0, 1, 2, 3, 0);
  }

  private static void waysOfLeaveTwelveDeep() {
    sentence("Terms 1", "the x-th WHILE around it, the innermost being the first");
    for (int x = 1; x <= 12; x++) {
      SliceLoom loom = new SliceLoom();
      loom.program();
      many(loom, 0, 12, WHILE, 0, number(1));
      lines(loom, 0, LEAVE, x, 0);
      for (int i = 0; i < 12; i++) {
        lines(loom, 0, CLOSE, 0, 0, GIVE, 0, 0);
      }
      is("run of LEAVE " + x, loom.run(0, 50), 0);
      is("step(12)", loom.step(12), 12);
      is("step(13), behind LEAVE " + x, loom.step(13), 12 + 2 * x);
      is("count(2)", loom.count(2), 14);
    }
  }

  private static void waysOfGive() {
    sentence("Terms 1", "Of GIVE: to the END.");
    SliceLoom x = loom(WHILE, 0, number(1), IF, 0, number(1), GIVE, 0, 0, TELL, 0, 0, CLOSE, 0, 0, CLOSE, 0, 0,
        TELL, 0, 0);
    is("run", x.run(0, 3), 0);
    is("ran(1)", x.ran(1), -1);
    steps(x, 0, 1, 2);
    SliceLoom first = loom(GIVE, 0, 0, TELL, 0, 0);
    is("run", first.run(0, 1), 0);
    steps(first, 0);
    SliceLoom last = loom(TELL, 0, 0, GIVE, 0, 0);
    is("run", last.run(0, 9), 0);
    steps(last, 0, 1);
  }

  private static void whereRunsBegin() {
    sentence("Terms 1",
        "A RUN of a WHOLE PROGRAM begins with the STATEMENT that is BEHIND no LINE (as if p were -1).");
    SliceLoom none = loom();
    is("run of no LINES", none.run(0, 9), 0);
    steps(none);
    is("ran(0)", none.ran(0), 0);
    is("ran(1)", none.ran(1), -1);
    int[] kinds = {SET, STORE, TELL, GIVE};
    for (int kind : kinds) {
      SliceLoom x = loom(kind, 0, 0);
      is("run of KIND " + kind + " alone", x.run(0, 9), 0);
      steps(x, 0);
    }
  }

  // ---------------------------------------------------------------- Terms 2

  private static void runsOfTerms() {
    whatRunsBeginWith();
    refusedStepCounts();
    endEnds();
    fuelEnds();
    fuelAtTheEnd();
  }

  private static void whatRunsBeginWith() {
    sentence("Terms 2", "A RUN: NAMES have what START tells, ROWS are 0.");
    SliceLoom x = new SliceLoom();
    x.program();
    for (int i = 0; i < 12; i++) {
      lines(x, 0, STORE, at(i / 4, 150 + i % 4), number(9));
    }
    for (int name = 0; name < 8; name++) {
      lines(x, 0, SET, name, number(8));
    }
    int[] started = {MIN, MAX, 0, -1, 1, 5, 6, 7};
    for (int name = 0; name < 8; name++) {
      x.start(name, started[name]);
    }
    for (int again = 0; again < 2; again++) {
      is("run", x.run(0, 50), 0);
      is("value(3)", x.value(3), 8);
      is("place(2, 3)", x.place(2, 3), 9);
      is("run without fuel", x.run(0, 0), 2);
      for (int name = 0; name < 8; name++) {
        is("value(" + name + ")", x.value(name), started[name]);
      }
      for (int i = 0; i < 12; i++) {
        is("place(" + i / 4 + ", " + i % 4 + ")", x.place(i / 4, i % 4), 0);
      }
    }
  }

  private static void refusedStepCounts() {
    sentence("Terms 2", "one that is REFUSED counts, and ends it");
    SliceLoom x = loom(SET, 0, number(1), SET, 0, e(4, 151, 1), SET, 0, number(2), TELL, 0, 0);
    is("run", x.run(0, 9), 1);
    is("ran(0)", x.ran(0), 2);
    is("value(0)", x.value(0), 1);
    steps(x, 0, 1);
    SliceLoom first = loom(TELL, 0, e(8, 0, 149), TELL, 0, 0);
    is("run, the first being REFUSED", first.run(0, 9), 1);
    is("ran(0)", first.ran(0), 1);
    is("ran(1)", first.ran(1), 0);
    steps(first, 0);
    is("run, the fuel being for that one alone", first.run(0, 1), 1);
    is("run without fuel", first.run(0, 0), 2);
    is("ran(0)", first.ran(0), 0);
  }

  private static void endEnds() {
    sentence("Terms 2", "so does coming to the END");
    SliceLoom x = loom(TELL, 0, 0, TELL, 0, 0);
    is("run", x.run(0, 20000), 0);
    is("ran(0)", x.ran(0), 2);
    is("ran(1)", x.ran(1), -1);
    SliceLoom y = loom(WHILE, 0, number(1), LEAVE, 1, 0, CLOSE, 0, 0);
    is("run", y.run(0, 20000), 0);
    is("ran(0)", y.ran(0), 2);
  }

  private static void fuelEnds() {
    sentence("Terms 2", "so does the fuel, when so many STEPS were done");
    SliceLoom x = loom(WHILE, 0, number(1), TELL, 0, number(7), CLOSE, 0, 0);
    int[] fuels = {0, 1, 2, 3, 399, 400, 401, 19999, 20000};
    for (int fuel : fuels) {
      is("run(0, " + fuel + ")", x.run(0, fuel), 2);
      is("ran(0)", x.ran(0), fuel);
      is("ran(1)", x.ran(1), fuel % 2);
      is("ran(2)", x.ran(2), fuel / 2);
      is("count(2)", x.count(2), Math.min(fuel, 400));
    }
  }

  private static void fuelAtTheEnd() {
    sentence("Terms 2", "and it isn't at the END");
    SliceLoom x = loom(TELL, 0, 0, TELL, 0, 0, TELL, 0, 0);
    is("run with just enough fuel", x.run(0, 3), 0);
    is("ran(1)", x.ran(1), -1);
    is("run with one less", x.run(0, 2), 2);
    is("ran(1)", x.ran(1), 2);
    is("run with one more", x.run(0, 4), 0);
    is("ran(0)", x.ran(0), 3);
    SliceLoom none = loom();
    is("run of no LINES without fuel", none.run(0, 0), 0);
    SliceLoom ticks = loom(WHILE, 0, e(6, 0, 150), SET, 0, e(1, 0, 151), CLOSE, 0, 0);
    ticks.start(0, -9999);
    is("run of 19999 STEPS", ticks.run(0, 19999), 0);
    is("run of 19999 STEPS, one less", ticks.run(0, 19998), 2);
    lines(ticks, 0, TELL, 0, name(0));
    is("run of 20000 STEPS", ticks.run(0, 20000), 0);
    is("ran(0)", ticks.ran(0), 20000);
    is("told(0)", ticks.told(0), 0);
  }

  // ---------------------------------------------------------------- Terms 3, READ ON

  private static void readOn() {
    namesRead();
    rowOfReaderAlone();
    oneWayAtLeast();
    setsBetween();
    setsOnEveryWay();
    waysToTheFirstLine();
    waysThatAreNone();
    othersSetNothing();
    storesByNumbers();
    storesByNames();
    storesAreNotHidden();
    storesNeedWays();
  }

  private static void namesRead() {
    sentence("Terms 3", "A STATEMENT READS the NAMES in its e (and of a STORE the OPERAND of its place)");
    for (int name = 0; name < 8; name++) {
      int next = (name + 1) % 8;
      SliceLoom x = loom(SET, name, number(1), TELL, 0, name(name), TELL, 0, e(1, name, 150),
          TELL, 0, e(7, 150, name),
          TELL, 0, e(8, 0, name), STORE, at(0, name), number(1), STORE, at(0, 150), name(name), IF, 0, name(name),
          CLOSE, 0, 0,
          WHILE, 0, name(name), CLOSE, 0, 0, SET, next, name(name), TELL, 0, name(next), TELL, 0, number(name),
          STORE, at(0, 150), number(name), TELL, 0, e(8, name % 3, next));
      int[] wants = {0, 1, 1, 1, 1, 1, 1, 1, -2, 1, -2, 1, 0, 0, 0, 0};
      for (int s = 0; s < wants.length; s++) {
        is("hangs(0, " + s + ", 0) of NAME " + name, x.hangs(0, s, 0), wants[s]);
      }
    }
    SliceLoom none = loom(SET, 0, number(1), TELL, 0, name(1), WHILE, 0, name(1), LEAVE, 1, 0, CLOSE, 0, 0,
        GIVE, 0, 0);
    for (int s : new int[] {1, 2, 3, 5}) {
      is("hangs(0, " + s + ", 0), which READS no NAME 0", none.hangs(0, s, 0), 0);
    }
  }

  private static void rowOfReaderAlone() {
    sentence("Terms 3", "and, with SORT 8, its ROW");
    SliceLoom x = loom(STORE, at(0, 0), number(1), STORE, at(1, 0), number(1), STORE, at(2, 0), number(1),
        TELL, 0, e(8, 0, 0), TELL, 0, e(8, 1, 0), TELL, 0, e(8, 2, 0), TELL, 0, e(7, 0, 0),
        STORE, at(0, 0), number(1));
    for (int s = 3; s <= 7; s++) {
      for (int t = 0; t < 3; t++) {
        is("hangs(0, " + s + ", " + t + ")", x.hangs(0, s, t), s - 3 == t ? 1 : 0);
      }
    }
  }

  private static void oneWayAtLeast() {
    sentence("Terms 3", "there is a row of WAYS from t to s (one at least)");
    SliceLoom alone = loom(SET, 0, e(1, 0, 151));
    is("hangs(0, 0, 0) without a WAY back", alone.hangs(0, 0, 0), 0);
    is("slice(0, 0)", alone.slice(0, 0), 1);
    SliceLoom turns = loom(WHILE, 0, number(1), SET, 0, e(1, 0, 151), CLOSE, 0, 0);
    is("hangs(0, 1, 1) with a WAY back", turns.hangs(0, 1, 1), 1);
    SliceLoom next = loom(SET, 0, number(1), TELL, 0, name(0));
    is("hangs(0, 1, 0) with just one WAY", next.hangs(0, 1, 0), 1);
    is("hangs(0, 0, 1) with none", next.hangs(0, 0, 1), 0);
  }

  private static void setsBetween() {
    sentence("Terms 3", "on which between them is no SET of that NAME");
    SliceLoom x = loom(SET, 0, number(1), SET, 0, e(1, 0, 151), TELL, 0, name(0));
    is("hangs(0, 1, 0), both being SETS of it", x.hangs(0, 1, 0), 1);
    is("hangs(0, 2, 0), one being between", x.hangs(0, 2, 0), 0);
    is("hangs(0, 2, 1)", x.hangs(0, 2, 1), 1);
    SliceLoom y = loom(SET, 0, number(1), SET, 1, number(2), STORE, at(0, 0), number(2), TELL, 0, name(0));
    is("hangs(0, 3, 0), a SET of another NAME being between", y.hangs(0, 3, 0), 1);
    SliceLoom ends = loom(SET, 7, number(1), SET, 7, number(2), SET, 0, name(7));
    is("hangs(0, 2, 0) of NAME 7", ends.hangs(0, 2, 0), 0);
    is("hangs(0, 2, 1) of NAME 7", ends.hangs(0, 2, 1), 1);
    SliceLoom long60 = new SliceLoom();
    long60.program();
    lines(long60, 0, SET, 0, number(1));
    many(long60, 0, 58, TELL, 0, 0);
    lines(long60, 0, TELL, 0, name(0));
    is("hangs(0, 59, 0) over 60 LINES", long60.hangs(0, 59, 0), 1);
  }

  private static void setsOnEveryWay() {
    sentence("Terms 3",
        "there is a row of WAYS from t to s (one at least) on which between them is no SET of that NAME");
    SliceLoom one = loom(SET, 0, number(1), IF, 0, name(1), SET, 0, number(2), CLOSE, 0, 0, TELL, 0, name(0));
    is("hangs(0, 4, 0), one row being free", one.hangs(0, 4, 0), 1);
    is("hangs(0, 4, 2)", one.hangs(0, 4, 2), 1);
    SliceLoom both = loom(SET, 0, number(1), IF, 0, name(1), SET, 0, number(2), ELSE, 0, 0, SET, 0, number(3),
        CLOSE, 0, 0, TELL, 0, name(0));
    is("hangs(0, 6, 0), no row being free", both.hangs(0, 6, 0), 0);
    is("hangs(0, 6, 2)", both.hangs(0, 6, 2), 1);
    is("hangs(0, 6, 4)", both.hangs(0, 6, 4), 1);
    SliceLoom loop = loom(SET, 0, number(1), WHILE, 0, name(1), TELL, 0, name(0), SET, 0, number(2), CLOSE, 0, 0,
        TELL, 0, name(0));
    is("hangs(0, 2, 0), in the first round", loop.hangs(0, 2, 0), 1);
    is("hangs(0, 2, 3), in the next round", loop.hangs(0, 2, 3), 1);
    is("hangs(0, 5, 0), without a round", loop.hangs(0, 5, 0), 1);
    SliceLoom fixed = loom(SET, 0, number(1), IF, 0, number(1), SET, 0, number(2), CLOSE, 0, 0, TELL, 0, name(0));
    is("hangs(0, 4, 0), whatever e of the IF is", fixed.hangs(0, 4, 0), 1);
  }

  private static void waysToTheFirstLine() {
    sentence("Terms 3",
        "there is a row of WAYS from t to s (one at least) on which between them is no SET of that NAME");
    SliceLoom behindIf = loom(WHILE, 0, name(0), SET, 0, number(1), IF, 0, name(1), ELSE, 0, 0, SET, 0, number(2),
        CLOSE, 0, 0, CLOSE, 0, 0);
    is("hangs(0, 0, 1), by the way that is BEHIND the IF", behindIf.hangs(0, 0, 1), 1);
    is("hangs(0, 0, 4)", behindIf.hangs(0, 0, 4), 1);
    SliceLoom besideIf = loom(WHILE, 0, name(0), SET, 0, number(1), IF, 0, name(1), SET, 0, number(2), CLOSE, 0, 0,
        CLOSE, 0, 0);
    is("hangs(0, 0, 1), by the way past the IF", besideIf.hangs(0, 0, 1), 1);
    is("hangs(0, 0, 3)", besideIf.hangs(0, 0, 3), 1);
    SliceLoom left = loom(WHILE, 0, name(0), WHILE, 0, name(1), SET, 0, number(1), LEAVE, 1, 0, CLOSE, 0, 0,
        CLOSE, 0, 0);
    is("hangs(0, 0, 2), by the way of a LEAVE", left.hangs(0, 0, 2), 1);
  }

  private static void waysThatAreNone() {
    sentence("Terms 3", "there is a row of WAYS from t to s");
    SliceLoom gives = loom(SET, 0, number(1), GIVE, 0, 0, TELL, 0, name(0), SET, 1, number(1), TELL, 0, name(1));
    is("hangs(0, 2, 0) past a GIVE", gives.hangs(0, 2, 0), 0);
    is("hangs(0, 4, 3), where no RUN comes", gives.hangs(0, 4, 3), 1);
    SliceLoom leaves = loom(WHILE, 0, number(1), SET, 0, number(1), LEAVE, 1, 0, TELL, 0, name(0), CLOSE, 0, 0,
        TELL, 0, name(0));
    is("hangs(0, 3, 1) past a LEAVE", leaves.hangs(0, 3, 1), 0);
    is("hangs(0, 5, 1) by way of a LEAVE", leaves.hangs(0, 5, 1), 1);
    SliceLoom parted = loom(IF, 0, name(1), SET, 0, number(1), ELSE, 0, 0, TELL, 0, name(0), CLOSE, 0, 0);
    is("hangs(0, 3, 1) from part to part", parted.hangs(0, 3, 1), 0);
  }

  private static void othersSetNothing() {
    sentence("Terms 3", "t is a SET of a NAME that s READS");
    SliceLoom x = loom(WHILE, 0, number(1), WHILE, 0, number(1), TELL, 0, number(1), IF, 0, number(1), LEAVE, 1, 0,
        CLOSE, 0, 0, IF, 0, number(1), LEAVE, 2, 0, ELSE, 0, 0, GIVE, 0, 0, CLOSE, 0, 0, SET, 3, number(1),
        STORE, at(1, 3), number(1), CLOSE, 0, 0, CLOSE, 0, 0);
    lines(x, 0, TELL, 0, name(0), TELL, 0, name(1), TELL, 0, name(2), TELL, 0, name(3), TELL, 0, e(8, 0, 0),
        TELL, 0, e(8, 1, 0), TELL, 0, e(8, 2, 0));
    for (int t : new int[] {0, 1, 2, 3, 4, 6, 7, 9}) {
      for (int s = 15; s <= 21; s++) {
        is("hangs(0, " + s + ", " + t + ") % 2, which is neither SET nor STORE", x.hangs(0, s, t) % 2, 0);
      }
    }
    for (int s = 15; s <= 21; s++) {
      is("hangs(0, " + s + ", 11), a SET", x.hangs(0, s, 11), s == 18 ? 1 : 0);
      is("hangs(0, " + s + ", 12), a STORE", x.hangs(0, s, 12), s == 20 ? 1 : 0);
    }
  }

  private static void storesByNumbers() {
    sentence("Terms 3", "and not both places are told by numbers that are not the same");
    int[] numbers = {100, 149, 150, 151, 153, 154, 200};
    for (int stored : numbers) {
      for (int read : numbers) {
        SliceLoom x = loom(STORE, at(1, stored), number(1), TELL, 0, e(8, 1, read), TELL, 0, e(8, 0, read),
            TELL, 0, e(8, 2, read));
        is("stored at " + stored + ", read at " + read, x.hangs(0, 1, 0), stored == read ? 1 : 0);
        is("another ROW", x.hangs(0, 2, 0), 0);
        is("another ROW", x.hangs(0, 3, 0), 0);
      }
    }
  }

  private static void storesByNames() {
    sentence("Terms 3", "not both places are told by numbers");
    int[] operands = {0, 7, 100, 150, 200};
    for (int stored : operands) {
      for (int read : operands) {
        SliceLoom x = loom(STORE, at(2, stored), number(1), TELL, 0, e(8, 2, read));
        boolean want = stored < 8 || read < 8 || stored == read;
        is("stored at OPERAND " + stored + ", read at " + read, x.hangs(0, 1, 0), want ? 1 : 0);
      }
    }
  }

  private static void storesAreNotHidden() {
    sentence("Terms 3", "or t is a STORE into a ROW that s READS, there is a row of WAYS from t to s");
    SliceLoom x = loom(STORE, at(0, 150), number(1), STORE, at(0, 150), number(2), STORE, at(0, 150), number(3),
        TELL, 0, e(8, 0, 150));
    for (int t = 0; t < 3; t++) {
      is("hangs(0, 3, " + t + ")", x.hangs(0, 3, t), 1);
    }
    is("slice(0, 3)", x.slice(0, 3), 4);
  }

  private static void storesNeedWays() {
    sentence("Terms 3", "t is a STORE into a ROW that s READS, there is a row of WAYS from t to s");
    SliceLoom x = loom(TELL, 0, e(8, 0, 150), STORE, at(0, 150), number(1), STORE, at(0, 150), e(8, 0, 150),
        GIVE, 0, 0, TELL, 0, e(8, 0, 150));
    is("hangs(0, 0, 1), which is ahead", x.hangs(0, 0, 1), 0);
    is("hangs(0, 2, 2), itself", x.hangs(0, 2, 2), 0);
    is("hangs(0, 2, 1)", x.hangs(0, 2, 1), 1);
    is("hangs(0, 4, 1), past a GIVE", x.hangs(0, 4, 1), 0);
    SliceLoom turns = loom(WHILE, 0, number(1), TELL, 0, e(8, 0, 150), STORE, at(0, 150), e(8, 0, 150),
        CLOSE, 0, 0);
    is("hangs(0, 1, 2), in the next round", turns.hangs(0, 1, 2), 1);
    is("hangs(0, 2, 2), itself in the next round", turns.hangs(0, 2, 2), 1);
  }

  // ---------------------------------------------------------------- Terms 3, DECIDED

  private static void decidedBy() {
    looseWaysOfLeave();
    looseWaysOfGive();
    decidersAreOfFourKinds();
    decidedWhenFirst();
    decidedByTheEnd();
    decidedByItself();
    notDecidedBySelf();
    decidedOnlyIfAvoidable();
    slicesHaveTheirOwn();
  }

  private static void looseWaysOfLeave() {
    sentence("Terms 3", "LOOSE WAYS are the WAYS, and of LEAVE and GIVE also to what is BEHIND them.");
    SliceLoom x = loom(WHILE, 0, number(1), LEAVE, 1, 0, TELL, 0, 0, CLOSE, 0, 0, TELL, 0, 0);
    hangsAre(x,
        new int[] {0, 2, 0, -2, 0},
        new int[] {2, 0, 0, -2, 0},
        new int[] {0, 2, 0, -2, 0},
        new int[] {-2, -2, -2, -2, -2},
        new int[] {0, 0, 0, -2, 0});
  }

  private static void looseWaysOfGive() {
    sentence("Terms 3", "of LEAVE and GIVE also to what is BEHIND them");
    SliceLoom x = loom(TELL, 0, 0, GIVE, 0, 0, TELL, 0, 0, TELL, 0, 0);
    hangsAre(x,
        new int[] {0, 0, 0, 0},
        new int[] {0, 0, 0, 0},
        new int[] {0, 2, 0, 0},
        new int[] {0, 2, 0, 0});
  }

  private static void decidersAreOfFourKinds() {
    sentence("Terms 3", "s IS DECIDED BY d (an IF, WHILE, LEAVE or GIVE)");
    SliceLoom x = loom(WHILE, 0, number(1), SET, 0, 0, STORE, 0, 0, TELL, 0, 0, IF, 0, number(1),
        TELL, 0, number(1), CLOSE, 0, 0, CLOSE, 0, 0);
    for (int t = 1; t <= 3; t++) {
      for (int s : new int[] {0, 5}) {
        is("hangs(0, " + s + ", " + t + ")", x.hangs(0, s, t), 0);
      }
    }
    is("hangs(0, 5, 4)", x.hangs(0, 5, 4), 2);
    is("hangs(0, 1, 0)", x.hangs(0, 1, 0), 2);
  }

  private static void decidedWhenFirst() {
    sentence("Terms 3", "s is on each row of LOOSE WAYS from v to the END (it is, too, if s is v)");
    SliceLoom x = loom(IF, 0, name(0), TELL, 0, 0, TELL, 0, 0, IF, 0, name(1), TELL, 0, 0, CLOSE, 0, 0, TELL, 0, 0,
        ELSE, 0, 0, TELL, 0, 0, CLOSE, 0, 0);
    int[] want = {0, 2, 2, 2, 0, -2, 2, -2, 2, -2};
    for (int s = 0; s < want.length; s++) {
      is("hangs(0, " + s + ", 0)", x.hangs(0, s, 0), want[s]);
    }
    is("hangs(0, 4, 3)", x.hangs(0, 4, 3), 2);
    is("hangs(0, 6, 3)", x.hangs(0, 6, 3), 0);
  }

  private static void decidedByTheEnd() {
    sentence("Terms 3", "there is a STATEMENT or the END v to which a LOOSE WAY leads from d");
    SliceLoom ends = loom(TELL, 0, 0, GIVE, 0, 0);
    hangsAre(ends, new int[] {0, 0}, new int[] {0, 0});
    SliceLoom empty = loom(IF, 0, name(0), CLOSE, 0, 0);
    is("hangs(0, 0, 0) of an IF with both ways to the END", empty.hangs(0, 0, 0), 0);
    SliceLoom last = loom(IF, 0, name(0), TELL, 0, 0, CLOSE, 0, 0);
    is("hangs(0, 1, 0) of an IF with one way to the END", last.hangs(0, 1, 0), 2);
    SliceLoom alone = loom(GIVE, 0, 0);
    is("hangs(0, 0, 0) of a GIVE alone", alone.hangs(0, 0, 0), 0);
  }

  private static void decidedByItself() {
    sentence("Terms 3", "but either s is d");
    SliceLoom nothing = loom(WHILE, 0, name(0), CLOSE, 0, 0);
    is("hangs(0, 0, 0) of a WHILE with nothing within", nothing.hangs(0, 0, 0), 2);
    SliceLoom some = loom(WHILE, 0, name(0), TELL, 0, 0, CLOSE, 0, 0, TELL, 0, 0);
    is("hangs(0, 0, 0) of a WHILE", some.hangs(0, 0, 0), 2);
    is("hangs(0, 3, 0) behind it", some.hangs(0, 3, 0), 0);
    SliceLoom nested = loom(WHILE, 0, name(0), WHILE, 0, name(1), CLOSE, 0, 0, CLOSE, 0, 0);
    hangsAre(nested, new int[] {2, 0}, new int[] {2, 2});
    SliceLoom once = loom(IF, 0, name(0), TELL, 0, 0, CLOSE, 0, 0);
    is("hangs(0, 0, 0) of an IF", once.hangs(0, 0, 0), 0);
    SliceLoom inLoop = loom(WHILE, 0, name(0), IF, 0, name(1), CLOSE, 0, 0, CLOSE, 0, 0);
    is("hangs(0, 1, 1) of an IF in a WHILE", inLoop.hangs(0, 1, 1), 0);
    is("hangs(0, 1, 0)", inLoop.hangs(0, 1, 0), 2);
  }

  private static void notDecidedBySelf() {
    sentence("Terms 3", "so that s is on each row of LOOSE WAYS from v to the END");
    SliceLoom x = loom(WHILE, 0, name(0), LEAVE, 1, 0, CLOSE, 0, 0);
    hangsAre(x, new int[] {0, 2}, new int[] {2, 0});
    SliceLoom y = loom(WHILE, 0, name(0), GIVE, 0, 0, CLOSE, 0, 0, TELL, 0, 0);
    hangsAre(y, new int[] {0, 2, -2, 0}, new int[] {2, 0, -2, 0}, new int[] {-2, -2, -2, -2},
        new int[] {2, 0, -2, 0});
    SliceLoom two = loom(WHILE, 0, name(0), WHILE, 0, name(1), LEAVE, 2, 0, CLOSE, 0, 0, CLOSE, 0, 0);
    hangsAre(two, new int[] {0, 2, 0}, new int[] {2, 0, 2}, new int[] {0, 2, 0});
  }

  private static void decidedOnlyIfAvoidable() {
    sentence("Terms 3", "or there is a row of LOOSE WAYS from d to the END on which s is not");
    SliceLoom x = loom(IF, 0, name(0), TELL, 0, 0, ELSE, 0, 0, TELL, 0, 0, CLOSE, 0, 0, TELL, 0, 0);
    int[] want = {0, 2, -2, 2, -2, 0};
    for (int s = 0; s < want.length; s++) {
      is("hangs(0, " + s + ", 0)", x.hangs(0, s, 0), want[s]);
    }
    SliceLoom y = loom(IF, 0, name(0), GIVE, 0, 0, CLOSE, 0, 0, TELL, 0, 0);
    hangsAre(y, new int[] {0, 0, -2, 0}, new int[] {2, 0, -2, 0}, new int[] {-2, -2, -2, -2},
        new int[] {2, 2, -2, 0});
    SliceLoom z = loom(WHILE, 0, name(0), TELL, 0, 0, CLOSE, 0, 0, TELL, 0, 0);
    is("hangs(0, 1, 0)", z.hangs(0, 1, 0), 2);
    is("hangs(0, 3, 0), which is on each row", z.hangs(0, 3, 0), 0);
  }

  private static void slicesHaveTheirOwn() {
    sentence("Terms 3", "The SLICE of s has s, and all on which one of it HANGS.");
    SliceLoom x = loom(SET, 0, number(1), TELL, 0, number(2), SET, 1, name(0), IF, 0, name(1), SET, 2, number(4),
        CLOSE, 0, 0, TELL, 0, name(2));
    is("slice(0, 1), which hangs on nothing", x.slice(0, 1), 1);
    atHand(x, 1);
    is("slice(0, 6)", x.slice(0, 6), 5);
    atHand(x, 0, 2, 3, 4, 6);
    SliceLoom parted = loom(SET, 7, number(1), SET, 0, number(1), SET, 1, number(2), SET, 2, name(1),
        SET, 3, name(7), TELL, 0, e(1, 0, 2));
    is("slice(0, 5), by two branches", parted.slice(0, 5), 4);
    atHand(parted, 1, 2, 3, 5);
    SliceLoom all = new SliceLoom();
    all.program();
    lines(all, 0, SET, 0, number(1));
    for (int i = 1; i < 60; i++) {
      lines(all, 0, SET, i % 2, name(1 - i % 2));
    }
    is("slice(0, 59), a chain of all 60 LINES", all.slice(0, 59), 60);
    is("slice(0, 0)", all.slice(0, 0), 1);
    is("slice(0, 58)", all.slice(0, 58), 59);
  }

  // ---------------------------------------------------------------- Terms 4

  private static void cutsOfTerms() {
    cutsKeepTheirParts();
    cutsOfAllAndOfOne();
    cutsOfLeaves();
    cutsOfLeavesTwelveDeep();
  }

  private static void cutsKeepTheirParts() {
    sentence("Terms 4", "in order, with the ELSE and CLOSE of each IF and the CLOSE of each WHILE that is");
    SliceLoom x = loom(IF, 0, name(0), TELL, 0, 0, ELSE, 0, 0, TELL, 0, 0, CLOSE, 0, 0, WHILE, 0, name(1),
        TELL, 0, 0, CLOSE, 0, 0);
    is("cut for the IF alone", x.cut(0, 0), 1);
    linesAre(x, 1, IF, 0, name(0), ELSE, 0, 0, CLOSE, 0, 0);
    is("cut for the WHILE alone", x.cut(0, 5), 2);
    linesAre(x, 2, WHILE, 0, name(1), CLOSE, 0, 0);
    is("cut for what is in the ELSE", x.cut(0, 3), 3);
    linesAre(x, 3, IF, 0, name(0), ELSE, 0, 0, TELL, 0, 0, CLOSE, 0, 0);
    is("cut for what is ahead of the ELSE", x.cut(0, 1), 4);
    linesAre(x, 4, IF, 0, name(0), TELL, 0, 0, ELSE, 0, 0, CLOSE, 0, 0);
    for (int program = 1; program <= 4; program++) {
      is("whole(" + program + ")", x.whole(program), 1);
    }
    SliceLoom without = loom(IF, 0, name(0), SET, 1, number(2), CLOSE, 0, 0, TELL, 0, number(3));
    is("cut that has no IF", without.cut(0, 3), 1);
    linesAre(without, 1, TELL, 0, number(3));
    is("cut for an IF without ELSE", without.cut(0, 0), 2);
    linesAre(without, 2, IF, 0, name(0), CLOSE, 0, 0);
  }

  private static void cutsOfAllAndOfOne() {
    sentence("Terms 4", "the LINES that are in the SLICE of s");
    SliceLoom x = new SliceLoom();
    x.program();
    lines(x, 0, SET, 0, number(1));
    for (int i = 1; i < 60; i++) {
      lines(x, 0, SET, i % 2, name(1 - i % 2));
    }
    is("cut that has all 60 LINES", x.cut(0, 59), 1);
    is("same(0, 1)", x.same(0, 1), 1);
    is("became(59)", x.became(59), 59);
    is("line more of that", x.line(1, TELL, 0, 0), -2);
    is("cut that has one LINE", x.cut(0, 0), 2);
    linesAre(x, 2, SET, 0, number(1));
    is("count(1)", x.count(1), 121);
  }

  private static void cutsOfLeaves() {
    sentence("Terms 4", "x of a LEAVE becomes how many of the WHILES that it leaves are in it");
    SliceLoom x = loom(WHILE, 0, name(0), TELL, 0, 0, WHILE, 0, name(1), LEAVE, 1, 0, CLOSE, 0, 0, LEAVE, 1, 0,
        CLOSE, 0, 0);
    is("cut for a LEAVE 1", x.cut(0, 3), 1);
    linesAre(x, 1, WHILE, 0, name(0), WHILE, 0, name(1), LEAVE, 1, 0, CLOSE, 0, 0, LEAVE, 1, 0, CLOSE, 0, 0);
    SliceLoom y = loom(WHILE, 0, name(0), WHILE, 0, name(1), TELL, 0, 0, IF, 0, name(2), LEAVE, 2, 0, CLOSE, 0, 0,
        CLOSE, 0, 0, CLOSE, 0, 0);
    is("cut for a LEAVE 2", y.cut(0, 4), 1);
    linesAre(y, 1, WHILE, 0, name(0), WHILE, 0, name(1), IF, 0, name(2), LEAVE, 2, 0, CLOSE, 0, 0, CLOSE, 0, 0,
        CLOSE, 0, 0);
  }

  private static void cutsOfLeavesTwelveDeep() {
    sentence("Terms 4", "how many of the WHILES that it leaves");
    for (int x = 1; x <= 12; x++) {
      SliceLoom loom = new SliceLoom();
      loom.program();
      many(loom, 0, 12, WHILE, 0, name(0));
      lines(loom, 0, TELL, 0, 0, LEAVE, x, 0);
      many(loom, 0, 12, CLOSE, 0, 0);
      is("cut for LEAVE " + x, loom.cut(0, 13), 1);
      is("its KIND", loom.of(1, 12, 0), LEAVE);
      is("its x", loom.of(1, 12, 1), x);
      is("LINES of the CUT beyond", loom.of(1, 25, 0), NOTHING);
      is("whole(1)", loom.whole(1), 1);
    }
  }

  // ---------------------------------------------------------------- Terms 5

  private static void records() {
    recordsOf400();
    recordsOfLatestRun();
    earlierSteps();
    latestSet();
    veryPlace();
    latestDecider();
    deciderBeyondTheRecord();
    refusedStepReads();
    refusedStepReadsNoPlace();
    refusedStepSetsNothing();
    tracesHaveTheirOwn();
  }

  private static void recordsOf400() {
    sentence("Terms 5", "THE RECORD: the STEPS of the latest RUN, the first 400 of them, each a STATEMENT.");
    SliceLoom x = loom(WHILE, 0, number(1), SET, 0, e(1, 0, 151), TELL, 0, name(0), CLOSE, 0, 0);
    int[] fuels = {0, 1, 398, 399, 400, 401, 402, 20000};
    for (int fuel : fuels) {
      is("run(0, " + fuel + ")", x.run(0, fuel), 2);
      int size = Math.min(fuel, 400);
      is("count(2)", x.count(2), size);
      is("step(" + size + ")", x.step(size), -1);
      is("step(" + (size - 1) + ")", x.step(size - 1), size == 0 ? -1 : (size - 1) % 3);
      is("trace(" + size + ")", x.trace(size), -2);
    }
    is("traced(398, 397)", x.traced(398, 397), 1);
    is("traced(399, 396)", x.traced(399, 396), 1);
    is("trace(398)", x.trace(398), 3);
    is("ran(0), which counts all", x.ran(0), 20000);
  }

  private static void recordsOfLatestRun() {
    sentence("Terms 5", "the STEPS of the latest RUN");
    SliceLoom x = loom(TELL, 0, 0, TELL, 0, 0, TELL, 0, 0);
    add(x, GIVE, 0, 0);
    x.program();
    is("run", x.run(0, 9), 0);
    steps(x, 0, 1, 2);
    is("run of less STEPS", x.run(1, 9), 0);
    steps(x, 0);
    is("run of no STEPS", x.run(2, 9), 0);
    steps(x);
    is("trace(0)", x.trace(0), -2);
  }

  private static void earlierSteps() {
    sentence("Terms 5", "Of STEP i HANGS ON STEP j, earlier");
    SliceLoom x = loom(SET, 0, e(1, 0, 151), SET, 1, name(0), SET, 0, e(1, 0, 1));
    is("run", x.run(0, 9), 0);
    traceIs(x, 0, 0);
    traceIs(x, 1, 0, 1);
    traceIs(x, 2, 0, 1, 2);
    SliceLoom turns = loom(WHILE, 0, e(6, 0, 152), SET, 0, e(1, 0, 151), CLOSE, 0, 0);
    is("run", turns.run(0, 9), 0);
    traceIs(turns, 0, 0);
    traceIs(turns, 1, 0, 1);
    traceIs(turns, 2, 0, 1, 2);
    traceIs(turns, 3, 0, 1, 2, 3);
    traceIs(turns, 4, 0, 1, 2, 3, 4);
  }

  private static void latestSet() {
    sentence("Terms 5", "for each NAME that it READS the latest one that SET it");
    SliceLoom x = loom(SET, 0, number(1), SET, 0, number(2), SET, 7, number(3), SET, 7, number(4),
        TELL, 0, e(1, 0, 7), STORE, at(0, 1), e(1, 7, 0), TELL, 0, name(2), TELL, 0, number(0), SET, 1, number(1),
        STORE, at(2, 1), name(0));
    is("run", x.run(0, 50), 0);
    traceIs(x, 4, 1, 3, 4);
    traceIs(x, 5, 1, 3, 5);
    traceIs(x, 6, 6);
    traceIs(x, 7, 7);
    traceIs(x, 9, 1, 8, 9);
  }

  private static void veryPlace() {
    sentence("Terms 5", "for a ROW's place that it READS (the very place) the latest that STORED there");
    SliceLoom x = loom(STORE, at(0, 150), number(1), STORE, at(0, 151), number(2), STORE, at(0, 150), number(3),
        STORE, at(1, 150), number(4), STORE, at(2, 153), number(5), TELL, 0, e(8, 0, 150), TELL, 0, e(8, 0, 151),
        TELL, 0, e(8, 1, 150), TELL, 0, e(8, 2, 153), TELL, 0, e(8, 0, 153), SET, 4, number(1), TELL, 0, e(8, 0, 4),
        STORE, at(0, 4), e(8, 0, 150), TELL, 0, e(8, 0, 151));
    is("run", x.run(0, 50), 0);
    traceIs(x, 5, 2, 5);
    traceIs(x, 6, 1, 6);
    traceIs(x, 7, 3, 7);
    traceIs(x, 8, 4, 8);
    traceIs(x, 9, 9);
    traceIs(x, 11, 1, 10, 11);
    traceIs(x, 12, 2, 10, 12);
    traceIs(x, 13, 2, 10, 12, 13);
    SliceLoom y = loom(STORE, at(0, 150), number(1), SET, 0, number(2), TELL, 0, e(8, 0, 150), TELL, 0, name(0),
        TELL, 0, number(3));
    is("run", y.run(0, 50), 0);
    traceIs(y, 2, 0, 2);
    traceIs(y, 3, 1, 3);
    traceIs(y, 4, 4);
  }

  private static void latestDecider() {
    sentence("Terms 5", "and the latest one whose STATEMENT is one by which that of i IS DECIDED");
    SliceLoom x = loom(WHILE, 0, e(6, 0, 153), SET, 0, e(1, 0, 151), TELL, 0, number(1), CLOSE, 0, 0,
        TELL, 0, number(2));
    is("run", x.run(0, 50), 0);
    steps(x, 0, 1, 2, 0, 1, 2, 0, 1, 2, 0, 4);
    is("traced(8, 6)", x.traced(8, 6), 1);
    is("traced(8, 7)", x.traced(8, 7), 0);
    is("traced(8, 4)", x.traced(8, 4), 1);
    traceIs(x, 2, 0, 2);
    traceIs(x, 5, 0, 1, 3, 5);
    traceIs(x, 10, 10);
    SliceLoom two = loom(WHILE, 0, number(1), IF, 0, e(7, 0, 151), LEAVE, 1, 0, CLOSE, 0, 0, SET, 0, number(1),
        CLOSE, 0, 0);
    is("run", two.run(0, 50), 0);
    steps(two, 0, 1, 4, 0, 1, 2);
    traceIs(two, 2, 0, 1, 2);
    traceIs(two, 3, 0, 1, 3);
    traceIs(two, 5, 0, 1, 2, 3, 4, 5);
  }

  private static void deciderBeyondTheRecord() {
    sentence("Terms 5", "the STEPS of the latest RUN, the first 400 of them");
    SliceLoom x = loom(WHILE, 0, e(6, 0, 200), SET, 0, e(1, 0, 151), CLOSE, 0, 0, TELL, 0, name(0));
    x.start(0, -149);
    is("run of 400 STEPS", x.run(0, 20000), 0);
    is("ran(0)", x.ran(0), 400);
    is("count(2)", x.count(2), 400);
    is("step(399)", x.step(399), 3);
    is("trace(399)", x.trace(399), 3);
    is("traced(399, 397)", x.traced(399, 397), 1);
    is("traced(399, 398)", x.traced(399, 398), 0);
    is("traced(399, 0)", x.traced(399, 0), 1);
    x.start(0, -150);
    is("run of 402 STEPS", x.run(0, 20000), 0);
    is("ran(0)", x.ran(0), 402);
    is("step(399)", x.step(399), 1);
    is("step(400)", x.step(400), -1);
    is("traced(399, 398)", x.traced(399, 398), 1);
  }

  private static void refusedStepReads() {
    sentence("Terms 5", "(A STEP that is REFUSED READS, too");
    SliceLoom divided = loom(SET, 0, number(4), SET, 1, number(0), TELL, 0, e(4, 0, 1));
    is("run", divided.run(0, 9), 1);
    traceIs(divided, 2, 0, 1, 2);
    SliceLoom stored = loom(SET, 0, number(4), SET, 1, number(2), STORE, at(2, 152), number(9),
        STORE, at(1, 0), e(8, 2, 1));
    is("run", stored.run(0, 9), 1);
    traceIs(stored, 3, 0, 1, 2, 3);
    SliceLoom both = loom(SET, 0, number(0), SET, 1, number(9), STORE, at(1, 1), e(5, 1, 0));
    is("run", both.run(0, 9), 1);
    traceIs(both, 2, 0, 1, 2);
    SliceLoom decided = loom(SET, 0, number(1), IF, 0, name(0), TELL, 0, e(4, 151, 150), CLOSE, 0, 0);
    is("run", decided.run(0, 9), 1);
    traceIs(decided, 2, 0, 1, 2);
  }

  private static void refusedStepReadsNoPlace() {
    sentence("Terms 5", "but no place that there isn't");
    SliceLoom above = loom(STORE, at(1, 150), number(1), SET, 0, number(4), TELL, 0, e(8, 0, 0));
    is("run", above.run(0, 9), 1);
    traceIs(above, 2, 1, 2);
    SliceLoom below = loom(STORE, at(0, 153), number(1), SET, 0, number(-1), TELL, 0, e(8, 1, 0));
    is("run", below.run(0, 9), 1);
    traceIs(below, 2, 1, 2);
    SliceLoom told = loom(STORE, at(0, 150), number(1), STORE, at(1, 150), number(1), TELL, 0, e(8, 0, 154));
    is("run", told.run(0, 9), 1);
    traceIs(told, 2, 2);
  }

  private static void refusedStepSetsNothing() {
    sentence("Terms 5", "and SETS and stores nothing.)");
    SliceLoom x = loom(SET, 3, number(6), SET, 3, e(4, 151, 150));
    is("run", x.run(0, 9), 1);
    is("value(3)", x.value(3), 6);
    SliceLoom y = loom(STORE, at(2, 151), number(6), STORE, at(2, 151), e(5, 151, 150));
    is("run", y.run(0, 9), 1);
    is("place(2, 1)", y.place(2, 1), 6);
    SliceLoom z = loom(STORE, at(1, 150), number(6), STORE, at(0, 154), number(7));
    is("run", z.run(0, 9), 1);
    is("place(1, 0)", z.place(1, 0), 6);
    SliceLoom tells = loom(TELL, 0, number(6), TELL, 0, e(8, 0, 154));
    is("run", tells.run(0, 9), 1);
    tellings(tells, 6);
  }

  private static void tracesHaveTheirOwn() {
    sentence("Terms 5", "The TRACE of STEP i has i, and all on which one of it HANGS.");
    SliceLoom x = loom(SET, 0, number(1), SET, 1, name(0), SET, 2, name(1), SET, 3, name(2), TELL, 0, number(5));
    is("run", x.run(0, 9), 0);
    traceIs(x, 0, 0);
    traceIs(x, 3, 0, 1, 2, 3);
    traceIs(x, 4, 4);
    SliceLoom last = loom(SET, 0, number(2), WHILE, 0, name(0), SET, 0, e(2, 0, 151), CLOSE, 0, 0,
        TELL, 0, name(0));
    is("run", last.run(0, 50), 0);
    steps(last, 0, 1, 2, 1, 2, 1, 4);
    traceIs(last, 6, 0, 1, 2, 3, 4, 6);
  }
}
