/**
 * Each sentence of the document's promises that names a boundary case (too small, too large, empty,
 * full, a wrap-around, a refused call), in the document's order, with a test of its own.
 */
public final class PromiseBoundaryTests extends Boundary {
  public static void main(String[] args) {
    promises1To6();
    promises7To11();
    promises12To19();
    promises20To23();
    promises24To27();
    report();
  }

  // ---------------------------------------------------------------- Promises 1 to 6

  private static void promises1To6() {
    newObject();
    programNumbers();
    lineEmptiesItsRecord();
    lineLeavesOtherRecords();
    lineOfNoProgram();
    lineBeyond60();
    lineOfNoKind();
    lineElse();
    lineClose();
    lineThirteenthPart();
    ofParts();
    ofTheEnd();
    ofNotWhole();
    ofNothing();
    wholeOfNone();
    startTells();
    startOfNone();
  }

  private static void newObject() {
    sentence("Promise 1", "No PROGRAMS; START tells 0 for each NAME; an empty RECORD.");
    SliceLoom x = new SliceLoom();
    for (int what = 0; what < 4; what++) {
      is("count(" + what + ")", x.count(what), 0);
    }
    is("step(0)", x.step(0), -1);
    is("trace(0)", x.trace(0), -2);
    is("traced(0, 0)", x.traced(0, 0), -2);
    is("whole(0)", x.whole(0), -2);
    is("same(0, 0)", x.same(0, 0), -2);
    is("of(0, 0, 0)", x.of(0, 0, 0), NOTHING);
    is("line(0, TELL, 0, 0)", x.line(0, TELL, 0, 0), -2);
    is("run(0, 0)", x.run(0, 0), -2);
    is("beside(0, 0, 0, 0, 0)", x.beside(0, 0, 0, 0, 0), -2);
    is("used(0)", x.used(0), -2);
    is("never(0)", x.never(0), -2);
    for (int name = 0; name < 8; name++) {
      is("start(" + name + ", 5)", x.start(name, 5), 0);
    }
    SliceLoom y = new SliceLoom();
    is("start(0, 0) of another object", y.start(0, 0), 0);
    y.program();
    is("count(0) of the first", x.count(0), 0);
  }

  private static void programNumbers() {
    sentence("Promise 2", "A new PROGRAM without LINES: its number. -2 when there are 16.");
    SliceLoom x = loom(TELL, 0, 0);
    for (int i = 1; i < 16; i++) {
      is("program()", i % 3 == 0 ? x.cut(0, 0) : x.program(), i);
      is("LINES of it", x.of(i, 0, 0), i % 3 == 0 ? TELL : NOTHING);
      is("whole of it", x.whole(i), 1);
    }
    is("program() when there are 16", x.program(), -2);
    is("count(0)", x.count(0), 16);
    is("count(1)", x.count(1), 6);
  }

  private static void lineEmptiesItsRecord() {
    sentence("Promise 3", "the RECORD, if it is of this PROGRAM, is empty then");
    SliceLoom x = loom(SET, 0, number(3), STORE, at(0, 150), name(0), TELL, 0, name(0));
    is("run", x.run(0, 9), 0);
    is("trace(2)", x.trace(2), 2);
    is("line", x.line(0, TELL, 0, 0), 3);
    steps(x);
    is("trace(0)", x.trace(0), -2);
    is("traced(0, 0)", x.traced(0, 0), -2);
    is("ran(0), which is left", x.ran(0), 3);
    is("ran(1)", x.ran(1), -1);
    is("ran(3)", x.ran(3), 0);
    tellings(x, 3);
    is("value(0)", x.value(0), 3);
    is("place(0, 0)", x.place(0, 0), 3);
    atHand(x, 0, 2);
    is("run", x.run(0, 9), 0);
    steps(x, 0, 1, 2, 3);
    is("an IF, so that it isn't WHOLE", x.line(0, IF, 0, 0), 4);
    steps(x);
  }

  private static void lineLeavesOtherRecords() {
    sentence("Promise 3", "the RECORD, if it is of this PROGRAM");
    SliceLoom x = loom(TELL, 0, 0, TELL, 0, 0);
    add(x, TELL, 0, 0);
    x.run(0, 9);
    is("line of another", x.line(1, TELL, 0, 0), 1);
    steps(x, 0, 1);
    is("a refused line of it", x.line(0, CLOSE, 0, 0), -2);
    steps(x, 0, 1);
    is("cut", x.cut(0, 1), 2);
    is("line of the CUT", x.line(2, TELL, 0, 0), 1);
    steps(x, 0, 1);
    is("beside", x.beside(0, 0, 1, 0, 9), 0);
    is("line of a", x.line(0, TELL, 0, 0), 2);
    steps(x, 0, 1);
    is("line of b", x.line(1, TELL, 0, 0), 2);
    steps(x);
  }

  private static void lineOfNoProgram() {
    sentence("Promise 3", "-2 when there is no such PROGRAM, it has 60, or there is no such KIND");
    SliceLoom x = new SliceLoom();
    is("line(0, ..) without PROGRAMS", x.line(0, TELL, 0, 0), -2);
    is("line(-1, ..) without PROGRAMS", x.line(-1, TELL, 0, 0), -2);
    x.program();
    for (int program : new int[] {-1, 1, 2, 15, 16, 256, MIN, MAX}) {
      is("line(" + program + ", ..)", x.line(program, TELL, 0, 0), -2);
    }
    is("count(1)", x.count(1), 0);
    is("line(0, ..)", x.line(0, TELL, 0, 0), 0);
  }

  private static void lineBeyond60() {
    sentence("Promise 3", "it has 60");
    SliceLoom x = new SliceLoom();
    x.program();
    many(x, 0, 59, TELL, 0, 0);
    is("the 60th line, an IF", x.line(0, IF, 0, 0), 59);
    for (int kind = 0; kind <= 8; kind++) {
      is("a line more, of KIND " + kind, x.line(0, kind, 0, 0), -2);
    }
    is("whole, which it can't be any more", x.whole(0), 0);
    is("run", x.run(0, 9), -2);
    is("count(1)", x.count(1), 60);
    is("of(0, 59, 0)", x.of(0, 59, 0), IF);
    is("of(0, 60, 0)", x.of(0, 60, 0), NOTHING);
  }

  private static void lineOfNoKind() {
    sentence("Promise 3", "or there is no such KIND; x or e is not as told in 1");
    SliceLoom x = loom(WHILE, 0, 0);
    for (int kind : new int[] {-1, 9, 10, MIN, MAX}) {
      for (int v = 0; v < 2; v++) {
        is("line of KIND " + kind, x.line(0, kind, v, 0), -2);
      }
    }
    is("x of a SET", x.line(0, SET, 8, 0), -2);
    is("x of a STORE", x.line(0, STORE, 3, 0), -2);
    is("x of a LEAVE", x.line(0, LEAVE, 2, 0), -2);
    is("x of a TELL", x.line(0, TELL, 1, 0), -2);
    is("e of a SET", x.line(0, SET, 0, e(9, 0, 0)), -2);
    is("e of a STORE", x.line(0, STORE, 0, -1), -2);
    is("e of a TELL", x.line(0, TELL, 0, e(1, 0, 8)), -2);
    is("e of an IF", x.line(0, IF, 0, e(0, 0, 1)), -2);
    is("e of a WHILE", x.line(0, WHILE, 0, e(8, 3, 0)), -2);
    is("count(1)", x.count(1), 1);
  }

  private static void lineElse() {
    sentence("Promise 3",
        "an ELSE, but the part that BEGAN latest and has no CLOSE isn't an IF, or has one already");
    SliceLoom x = new SliceLoom();
    x.program();
    is("ELSE without a part", x.line(0, ELSE, 0, 0), -2);
    is("IF", x.line(0, IF, 0, 0), 0);
    is("WHILE", x.line(0, WHILE, 0, 0), 1);
    is("ELSE of a WHILE in an IF", x.line(0, ELSE, 0, 0), -2);
    is("CLOSE", x.line(0, CLOSE, 0, 0), 2);
    is("ELSE", x.line(0, ELSE, 0, 0), 3);
    is("ELSE once more", x.line(0, ELSE, 0, 0), -2);
    is("IF behind the ELSE", x.line(0, IF, 0, 0), 4);
    is("ELSE of that", x.line(0, ELSE, 0, 0), 5);
    is("ELSE of that once more", x.line(0, ELSE, 0, 0), -2);
    is("CLOSE", x.line(0, CLOSE, 0, 0), 6);
    is("ELSE of the first once more", x.line(0, ELSE, 0, 0), -2);
    is("CLOSE", x.line(0, CLOSE, 0, 0), 7);
    is("ELSE behind all parts", x.line(0, ELSE, 0, 0), -2);
    is("IF", x.line(0, IF, 0, 0), 8);
    is("ELSE of an IF later on", x.line(0, ELSE, 0, 0), 9);
  }

  private static void lineClose() {
    sentence("Promise 3", "a CLOSE, but there is no part without");
    SliceLoom x = new SliceLoom();
    x.program();
    is("CLOSE without a part", x.line(0, CLOSE, 0, 0), -2);
    for (int i = 0; i < 12; i++) {
      lines(x, 0, i % 3 == 0 ? WHILE : IF, 0, 0);
    }
    for (int i = 0; i < 12; i++) {
      is("CLOSE", x.line(0, CLOSE, 0, 0), 12 + i);
    }
    is("CLOSE when all have theirs", x.line(0, CLOSE, 0, 0), -2);
    is("whole(0)", x.whole(0), 1);
    is("count(1)", x.count(1), 24);
  }

  private static void lineThirteenthPart() {
    sentence("Promise 3", "an IF or WHILE, but 12 parts have no CLOSE");
    SliceLoom x = new SliceLoom();
    x.program();
    for (int i = 0; i < 12; i++) {
      is("part " + i, x.line(0, i < 6 ? IF : WHILE, 0, 0), i);
    }
    is("a 13th IF", x.line(0, IF, 0, 0), -2);
    is("a 13th WHILE", x.line(0, WHILE, 0, 0), -2);
    is("a TELL", x.line(0, TELL, 0, 0), 12);
    is("a CLOSE", x.line(0, CLOSE, 0, 0), 13);
    is("a 12th once more", x.line(0, IF, 0, 0), 14);
    is("a 13th once more", x.line(0, WHILE, 0, 0), -2);
    SliceLoom flat = new SliceLoom();
    flat.program();
    for (int i = 0; i < 30; i++) {
      is("a part, the others having their CLOSE", flat.line(0, i % 2 == 0 ? IF : WHILE, 0, 0), 2 * i);
      is("its CLOSE", flat.line(0, CLOSE, 0, 0), 2 * i + 1);
    }
  }

  private static void ofParts() {
    sentence("Promise 4",
        "how many parts it is in (4: those that BEGAN ahead of it and have no CLOSE ahead of it; an ELSE and "
            + "a CLOSE are in their part)");
    SliceLoom x = loom(TELL, 0, 0, IF, 0, 0, TELL, 0, 0, ELSE, 0, 0, WHILE, 0, 0, CLOSE, 0, 0, CLOSE, 0, 0,
        TELL, 0, 0);
    int[] want = {0, 0, 1, 1, 1, 2, 1, 0};
    for (int p = 0; p < want.length; p++) {
      is("of(0, " + p + ", 4)", x.of(0, p, 4), want[p]);
    }
    SliceLoom deep = new SliceLoom();
    deep.program();
    many(deep, 0, 12, WHILE, 0, 0);
    many(deep, 0, 1, LEAVE, 12, 0);
    many(deep, 0, 12, CLOSE, 0, 0);
    for (int p = 0; p < 25; p++) {
      is("of(0, " + p + ", 4)", deep.of(0, p, 4), p <= 12 ? p : 25 - p);
    }
    is("of(0, 12, 1)", deep.of(0, 12, 1), 12);
  }

  private static void ofTheEnd() {
    sentence("Promise 4", "-1 for 3 when that is the END");
    SliceLoom x = loom(IF, 0, 0, TELL, 0, 0, ELSE, 0, 0, CLOSE, 0, 0);
    for (int p = 0; p < 4; p++) {
      is("of(0, " + p + ", 3)", x.of(0, p, 3), p == 0 ? 1 : -1);
    }
    is("of(0, 3, 2)", x.of(0, 3, 2), 0);
  }

  private static void ofNotWhole() {
    sentence("Promise 4", "or the PROGRAM isn't WHOLE");
    SliceLoom x = loom(TELL, 0, 0, TELL, 0, name(3), WHILE, 0, e(1, 2, 3), SET, 5, number(4));
    int[][] want = {{TELL, 0, 0, -1, 0}, {TELL, 0, name(3), -1, 0}, {WHILE, 0, e(1, 2, 3), -1, 0},
        {SET, 5, number(4), -1, 1}};
    for (int p = 0; p < want.length; p++) {
      for (int what = 0; what < 5; what++) {
        is("of(0, " + p + ", " + what + ")", x.of(0, p, what), want[p][what]);
      }
    }
    lines(x, 0, CLOSE, 0, 0);
    behindAre(x, 1, 2, 3, 2, -1);
  }

  private static void ofNothing() {
    sentence("Promise 4", "-2000000000 when there is no such PROGRAM, LINE or what.");
    SliceLoom x = loom(TELL, 0, 0, TELL, 0, 0);
    add(x, IF, 0, 0);
    x.program();
    for (int what = 0; what < 5; what++) {
      for (int program : new int[] {-1, 3, 15, 16, MIN, MAX}) {
        is("of(" + program + ", 0, " + what + ")", x.of(program, 0, what), NOTHING);
      }
      for (int p : new int[] {-1, 2, 59, 60, MIN, MAX}) {
        is("of(0, " + p + ", " + what + ")", x.of(0, p, what), NOTHING);
      }
      is("of a PROGRAM without LINES", x.of(2, 0, what), NOTHING);
    }
    for (int what : new int[] {-1, 5, 6, MIN, MAX}) {
      is("of(0, 0, " + what + ")", x.of(0, 0, what), NOTHING);
      is("of(1, 0, " + what + ")", x.of(1, 0, what), NOTHING);
    }
  }

  private static void wholeOfNone() {
    sentence("Promise 5", "Whether a PROGRAM is WHOLE: 1, 0. -2 when there is none such.");
    SliceLoom x = new SliceLoom();
    is("whole(0) without PROGRAMS", x.whole(0), -2);
    x.program();
    add(x, WHILE, 0, 0);
    is("whole(0)", x.whole(0), 1);
    is("whole(1)", x.whole(1), 0);
    for (int program : new int[] {-1, 2, 15, 16, MIN, MAX}) {
      is("whole(" + program + ")", x.whole(program), -2);
    }
    for (int i = 2; i < 16; i++) {
      x.program();
    }
    is("whole(15)", x.whole(15), 1);
    is("whole(16)", x.whole(16), -2);
  }

  private static void startTells() {
    sentence("Promise 6", "START tells v for a NAME: what it told.");
    SliceLoom x = new SliceLoom();
    int[] told = {MIN, MAX, NOTHING, -2, -1, 0, 1, 7};
    for (int name = 0; name < 8; name++) {
      is("start, of 0", x.start(name, told[name]), 0);
    }
    for (int name = 7; name >= 0; name--) {
      is("start, of what was told", x.start(name, 3), told[name]);
    }
    for (int name = 0; name < 8; name++) {
      is("start, of 3", x.start(name, 0), 3);
    }
  }

  private static void startOfNone() {
    sentence("Promise 6", "-2000000000 when there is no such NAME.");
    SliceLoom x = loom(TELL, 0, 0);
    for (int name : new int[] {-1, 8, 9, 100, 150, 256, MIN, MAX}) {
      is("start(" + name + ", 9)", x.start(name, 9), NOTHING);
    }
    x.run(0, 9);
    for (int name = 0; name < 8; name++) {
      is("value(" + name + ")", x.value(name), 0);
      is("start(" + name + ", 1)", x.start(name, 1), 0);
    }
  }

  // ---------------------------------------------------------------- Promises 7 to 11

  private static void promises7To11() {
    runAnswers();
    runRefused();
    ranAnswers();
    ranBeforeFirstRun();
    ranOfAnotherWhat();
    toldOf300();
    toldOfNone();
    valueOfNone();
    placeOfNone();
  }

  private static void runAnswers() {
    sentence("Promise 7", "A RUN: 0 it came to the END, 1 it was REFUSED, 2 the fuel is spent.");
    SliceLoom x = loom(TELL, 0, 0, TELL, 0, e(4, 151, 1), TELL, 0, 0);
    is("run with no fuel", x.run(0, 0), 2);
    is("run, the fuel spent ahead of the REFUSED one", x.run(0, 1), 2);
    is("run, the fuel spent with it", x.run(0, 2), 1);
    is("run, fuel left", x.run(0, 3), 1);
    x.start(1, 1);
    is("run, the fuel spent ahead of the last", x.run(0, 2), 2);
    is("run, the fuel spent with the last", x.run(0, 3), 0);
    is("run with all fuel", x.run(0, 20000), 0);
  }

  private static void runRefused() {
    sentence("Promise 7", "-2 when there is no such PROGRAM, it isn't WHOLE, or fuel is not 0 .. 20000.");
    SliceLoom x = loom(TELL, 0, number(1));
    add(x, TELL, 0, number(2), IF, 0, 0);
    for (int program : new int[] {-1, 2, 15, 16, MIN, MAX}) {
      is("run(" + program + ", 9)", x.run(program, 9), -2);
    }
    for (int fuel : new int[] {-1, -20000, 20001, 65536, MIN, MAX}) {
      is("run(0, " + fuel + ")", x.run(0, fuel), -2);
    }
    is("run(1, 9), which isn't WHOLE", x.run(1, 9), -2);
    is("run(1, 0), which isn't WHOLE", x.run(1, 0), -2);
    is("ran(0)", x.ran(0), -1);
    is("run(0, 0)", x.run(0, 0), 2);
    is("run(0, 20000)", x.run(0, 20000), 0);
    lines(x, 1, CLOSE, 0, 0);
    is("run(1, 9), which is WHOLE then", x.run(1, 9), 0);
    tellings(x, 2);
  }

  private static void ranAre(SliceLoom x, int... want) {
    for (int what = 0; what < want.length; what++) {
      is("ran(" + what + ")", x.ran(what), want[what]);
    }
  }

  private static void ranAnswers() {
    sentence("Promise 8",
        "the LINE that was REFUSED, or where it was when the fuel was spent, -1 when it came to the END (1)");
    SliceLoom x = loom();
    add(x, TELL, 0, 0, TELL, 0, e(8, 2, 3), TELL, 0, 0);
    is("run of no LINES", x.run(0, 0), 0);
    ranAre(x, 0, -1, 0, 0);
    is("run", x.run(1, 9), 0);
    ranAre(x, 3, -1, 3, 1);
    is("run without fuel", x.run(1, 0), 2);
    ranAre(x, 0, 0, 0, 1);
    is("run with less fuel", x.run(1, 2), 2);
    ranAre(x, 2, 2, 2, 1);
    x.start(3, 4);
    is("run, REFUSED", x.run(1, 9), 1);
    ranAre(x, 2, 1, 1, 1);
    is("a refused run", x.run(2, 9), -2);
    ranAre(x, 2, 1, 1, 1);
    SliceLoom last = new SliceLoom();
    last.program();
    many(last, 0, 59, TELL, 0, 0);
    many(last, 0, 1, TELL, 0, e(8, 0, 149));
    is("run, the 60th LINE being REFUSED", last.run(0, 20000), 1);
    ranAre(last, 60, 59, 59, 0);
    is("run, the fuel spent ahead of it", last.run(0, 59), 2);
    ranAre(last, 59, 59, 59, 0);
  }

  private static void ranBeforeFirstRun() {
    sentence("Promise 8", "-1 before the first RUN");
    SliceLoom x = loom(TELL, 0, 0, TELL, 0, 0);
    ranAre(x, -1, -1, -1, -1);
    x.slice(0, 0);
    x.cut(0, 0);
    x.run(0, 20001);
    x.beside(0, 0, 0, 9, 5);
    ranAre(x, -1, -1, -1, -1);
    SliceLoom y = loom(TELL, 0, 0);
    is("beside, whose RUN of b is the first", y.beside(0, 0, 0, 0, 9), 0);
    ranAre(y, 1, -1, 1, 0);
  }

  private static void ranOfAnotherWhat() {
    sentence("Promise 8", "-2 for another what.");
    SliceLoom x = loom(TELL, 0, 0);
    x.run(0, 9);
    for (int what : new int[] {-1, 4, 5, 256, MIN, MAX}) {
      is("ran(" + what + ")", x.ran(what), -2);
    }
  }

  private static void toldOf300() {
    sentence("Promise 9", "The i-th number that the latest RUN told, from 0 on; of more than 300 the first 300.");
    SliceLoom x = loom(WHILE, 0, number(1), SET, 0, e(1, 0, 151), TELL, 0, name(0), CLOSE, 0, 0);
    for (int times : new int[] {1, 299, 300, 301, 302, 6000}) {
      is("run", x.run(0, 3 * times), 2);
      is("ran(2)", x.ran(2), times);
      is("told(0)", x.told(0), 1);
      is("told(298)", x.told(298), times > 298 ? 299 : 0);
      is("told(299)", x.told(299), times > 299 ? 300 : 0);
      is("told(300)", x.told(300), 0);
      is("told(301)", x.told(301), 0);
      is("told of the last, or none", x.told(times - 1), times <= 300 ? times : 0);
    }
  }

  private static void toldOfNone() {
    sentence("Promise 9", "0 when there is none such.");
    SliceLoom x = loom(TELL, 0, number(7), TELL, 0, number(8), TELL, 0, number(9));
    is("told(0) before the first RUN", x.told(0), 0);
    x.run(0, 9);
    is("told(2)", x.told(2), 9);
    for (int i : new int[] {-1, 3, 4, 299, 300, 400, MIN, MAX}) {
      is("told(" + i + ")", x.told(i), 0);
    }
    x.run(0, 1);
    is("told(0)", x.told(0), 7);
    is("told(1), of an earlier RUN", x.told(1), 0);
    x.run(0, 0);
    is("told(0), of an earlier RUN", x.told(0), 0);
  }

  private static void valueOfNone() {
    sentence("Promise 10", "0 when there is none such, or before the first RUN.");
    SliceLoom x = loom(SET, 0, number(5));
    for (int name = 0; name < 8; name++) {
      x.start(name, 30 + name);
    }
    for (int name = -1; name <= 8; name++) {
      is("value(" + name + ") before the first RUN", x.value(name), 0);
    }
    x.run(0, 9);
    for (int name = 0; name < 8; name++) {
      is("value(" + name + ")", x.value(name), name == 0 ? 5 : 30 + name);
    }
    for (int name : new int[] {-1, 8, 9, 100, 256, MIN, MAX}) {
      is("value(" + name + ")", x.value(name), 0);
    }
    x.start(7, 9);
    is("value(7), behind the latest RUN", x.value(7), 37);
  }

  private static void placeOfNone() {
    sentence("Promise 11", "0 when there is none such, or before the first RUN.");
    SliceLoom x = new SliceLoom();
    x.program();
    for (int i = 0; i < 12; i++) {
      lines(x, 0, STORE, at(i / 4, 150 + i % 4), number(i + 1));
    }
    for (int row = -1; row <= 3; row++) {
      for (int i = -1; i <= 4; i++) {
        is("place(" + row + ", " + i + ") before the first RUN", x.place(row, i), 0);
      }
    }
    x.run(0, 12);
    for (int row = -1; row <= 3; row++) {
      for (int i = -5; i <= 12; i++) {
        boolean exists = row >= 0 && row < 3 && i >= 0 && i < 4;
        is("place(" + row + ", " + i + ")", x.place(row, i), exists ? 4 * row + i + 1 : 0);
      }
    }
    int[][] far = {{MIN, 0}, {MAX, 0}, {0, MIN}, {2, MAX}, {1 << 30, 0}, {1 << 30, 1}, {-1, 4}, {MIN, MIN},
        {MAX, MAX}};
    for (int[] none : far) {
      is("place(" + none[0] + ", " + none[1] + ")", x.place(none[0], none[1]), 0);
    }
  }

  // ---------------------------------------------------------------- Promises 12 to 19

  private static final int[] NO_STATEMENTS = {-1, 2, 3, 5, 6, 59, 60, 63, 64, 65, 68, MIN, MAX};
  private static final int[] NO_WHOLES = {-1, 1, 3, 15, 16, MIN, MAX};

  private static void promises12To19() {
    hangsAnswers();
    hangsRefused();
    sliceAnswers();
    sliceRefused();
    onwardAnswers();
    onwardRefused();
    betweenAnswers();
    betweenRefused();
    usedAnswers();
    usedRefused();
    neverAnswers();
    neverOfTheFirst();
    neverRefused();
    hasNothingAtFirst();
    hasOfNone();
    hasIsLeft();
    farOfOne();
    farOfNone();
    farAnswers();
    farRefused();
  }

  /** LINES 0, 1 and 4 of program 0 are its STATEMENTS; 1 isn't WHOLE, 2 has no LINES. */
  private static SliceLoom asked() {
    SliceLoom x = loom(IF, 0, name(0), TELL, 0, 0, ELSE, 0, 0, CLOSE, 0, 0, TELL, 0, 0);
    add(x, TELL, 0, 0, IF, 0, 0, TELL, 0, 0);
    x.program();
    return x;
  }

  private static void hangsAnswers() {
    sentence("Promise 12", "1 t is READ ON by s, 2 s IS DECIDED BY t, 3 both, 0 neither");
    SliceLoom x = loom(SET, 0, number(1), WHILE, 0, name(0), SET, 0, e(2, 0, 151), CLOSE, 0, 0, TELL, 0, name(1));
    hangsAre(x,
        new int[] {0, 0, 0, -2, 0},
        new int[] {1, 2, 1, -2, 0},
        new int[] {1, 2, 1, -2, 0},
        new int[] {-2, -2, -2, -2, -2},
        new int[] {0, 0, 0, -2, 0});
  }

  private static void hangsRefused() {
    sentence("Promise 12",
        "-2 when there is no such PROGRAM, it isn't WHOLE, or one of them is no STATEMENT of it.");
    SliceLoom x = asked();
    for (int p : NO_STATEMENTS) {
      is("hangs(0, " + p + ", 0)", x.hangs(0, p, 0), -2);
      is("hangs(0, 1, " + p + ")", x.hangs(0, 1, p), -2);
      is("hangs(0, " + p + ", " + p + ")", x.hangs(0, p, p), -2);
    }
    for (int program : NO_WHOLES) {
      is("hangs(" + program + ", 0, 0)", x.hangs(program, 0, 0), -2);
    }
    is("hangs(2, 0, 0), without LINES", x.hangs(2, 0, 0), -2);
    is("hangs(0, 1, 0)", x.hangs(0, 1, 0), 2);
    is("hangs(0, 4, 4)", x.hangs(0, 4, 4), 0);
  }

  private static void sliceAnswers() {
    sentence("Promise 13", "The SLICE of LINE s is the SET AT HAND: how many it has.");
    SliceLoom x = new SliceLoom();
    x.program();
    many(x, 0, 58, TELL, 0, 0);
    lines(x, 0, SET, 6, number(1), TELL, 0, name(6));
    is("slice(0, 59)", x.slice(0, 59), 2);
    atHand(x, 58, 59);
    is("slice(0, 0), which takes its place", x.slice(0, 0), 1);
    atHand(x, 0);
  }

  private static void sliceRefused() {
    sentence("Promise 13", "-2 as of hangs().");
    SliceLoom x = asked();
    is("slice(0, 1)", x.slice(0, 1), 2);
    for (int p : NO_STATEMENTS) {
      is("slice(0, " + p + ")", x.slice(0, p), -2);
    }
    for (int program : NO_WHOLES) {
      is("slice(" + program + ", 0)", x.slice(program, 0), -2);
    }
    is("slice(2, 0), without LINES", x.slice(2, 0), -2);
    atHand(x, 0, 1);
  }

  private static void onwardAnswers() {
    sentence("Promise 14", "The STATEMENTS whose SLICES have LINE t are the SET AT HAND: how many.");
    SliceLoom x = new SliceLoom();
    x.program();
    lines(x, 0, SET, 0, number(1));
    for (int i = 1; i < 58; i++) {
      lines(x, 0, SET, i % 2, name(1 - i % 2));
    }
    lines(x, 0, IF, 0, name(1), CLOSE, 0, 0);
    is("onward(0, 0), all but a CLOSE", x.onward(0, 0), 59);
    is("has(59), the CLOSE", x.has(59), 0);
    is("has(58)", x.has(58), 1);
    is("onward(0, 57), the last SET", x.onward(0, 57), 2);
    atHand(x, 57, 58);
    is("onward(0, 58), of which there is but itself", x.onward(0, 58), 1);
    atHand(x, 58);
    SliceLoom turns = loom(WHILE, 0, name(0), SET, 0, name(1), CLOSE, 0, 0);
    is("onward(0, 1), which the first LINE hangs on", turns.onward(0, 1), 2);
    atHand(turns, 0, 1);
    SliceLoom back = loom(WHILE, 0, name(0), SET, 1, name(2), SET, 2, name(3), SET, 3, name(4), SET, 4, number(1),
        CLOSE, 0, 0);
    is("onward(0, 4), three rounds back", back.onward(0, 4), 4);
    atHand(back, 1, 2, 3, 4);
  }

  private static void onwardRefused() {
    sentence("Promise 14", "-2 as of hangs().");
    SliceLoom x = asked();
    is("onward(0, 0)", x.onward(0, 0), 2);
    for (int p : NO_STATEMENTS) {
      is("onward(0, " + p + ")", x.onward(0, p), -2);
    }
    for (int program : NO_WHOLES) {
      is("onward(" + program + ", 0)", x.onward(program, 0), -2);
    }
    is("onward(2, 0), without LINES", x.onward(2, 0), -2);
    atHand(x, 0, 1);
  }

  private static void betweenAnswers() {
    sentence("Promise 15",
        "The STATEMENTS that are in the SLICE of s, and whose SLICES have t, are the SET AT HAND: how many.");
    SliceLoom x = loom(SET, 0, number(1), SET, 1, name(0), SET, 2, name(0), SET, 3, number(4), TELL, 0, e(1, 1, 3),
        TELL, 0, name(2));
    is("between(0, 4, 0)", x.between(0, 4, 0), 3);
    atHand(x, 0, 1, 4);
    is("between(0, 4, 2), which is in no SLICE of it", x.between(0, 4, 2), 0);
    atHand(x);
    is("between(0, 4, 4), the same", x.between(0, 4, 4), 1);
    atHand(x, 4);
    is("between(0, 0, 4), the other way round", x.between(0, 0, 4), 0);
    atHand(x);
    is("between(0, 4, 3)", x.between(0, 4, 3), 2);
    atHand(x, 3, 4);
    SliceLoom turns = loom(WHILE, 0, name(0), SET, 0, name(1), SET, 1, name(0), CLOSE, 0, 0);
    is("between(0, 0, 0) of a WHILE", turns.between(0, 0, 0), 3);
    atHand(turns, 0, 1, 2);
  }

  private static void betweenRefused() {
    sentence("Promise 15", "-2 as of hangs().");
    SliceLoom x = asked();
    is("between(0, 1, 0)", x.between(0, 1, 0), 2);
    for (int p : NO_STATEMENTS) {
      is("between(0, " + p + ", 0)", x.between(0, p, 0), -2);
      is("between(0, 4, " + p + ")", x.between(0, 4, p), -2);
      is("between(0, " + p + ", " + p + ")", x.between(0, p, p), -2);
    }
    for (int program : NO_WHOLES) {
      is("between(" + program + ", 0, 0)", x.between(program, 0, 0), -2);
    }
    is("between(2, 0, 0), without LINES", x.between(2, 0, 0), -2);
    atHand(x, 0, 1);
  }

  private static void usedAnswers() {
    sentence("Promise 16", "The STATEMENTS that are in the SLICE of some TELL are the SET AT HAND: how many.");
    SliceLoom x = loom(SET, 0, number(1), TELL, 0, name(0), SET, 0, number(2), GIVE, 0, 0, SET, 1, number(3),
        TELL, 0, name(1));
    is("used(0)", x.used(0), 5);
    atHand(x, 0, 1, 3, 4, 5);
    int silent = add(x, SET, 0, number(1), STORE, at(0, 0), name(0), IF, 0, name(0), CLOSE, 0, 0);
    is("used of a PROGRAM without TELLS", x.used(silent), 0);
    atHand(x);
    is("used(0)", x.used(0), 5);
    is("used of a PROGRAM without LINES", x.used(x.program()), 0);
    atHand(x);
    int tells = x.program();
    many(x, tells, 60, TELL, 0, 0);
    is("used of 60 TELLS", x.used(tells), 60);
    is("has(0)", x.has(0), 1);
    is("has(59)", x.has(59), 1);
    is("count(3)", x.count(3), 60);
  }

  private static void usedRefused() {
    sentence("Promise 16", "-2 when there is no such PROGRAM, or it isn't WHOLE.");
    SliceLoom x = asked();
    is("used(0)", x.used(0), 3);
    for (int program : NO_WHOLES) {
      is("used(" + program + ")", x.used(program), -2);
    }
    atHand(x, 0, 1, 4);
    is("used(2), without LINES", x.used(2), 0);
  }

  private static void neverAnswers() {
    sentence("Promise 17", "The STATEMENTS to which no row of WAYS leads from that with which a RUN begins");
    SliceLoom x = loom(WHILE, 0, number(1), CLOSE, 0, 0, TELL, 0, 0, IF, 0, number(0), TELL, 0, 0, CLOSE, 0, 0);
    is("never(0), whatever e comes to", x.never(0), 0);
    atHand(x);
    SliceLoom y = loom(IF, 0, 0, GIVE, 0, 0, ELSE, 0, 0, GIVE, 0, 0, CLOSE, 0, 0, TELL, 0, 0, WHILE, 0, 0,
        LEAVE, 1, 0, CLOSE, 0, 0);
    is("never(0), behind two GIVES", y.never(0), 3);
    atHand(y, 5, 6, 7);
    SliceLoom z = loom(WHILE, 0, 0, LEAVE, 1, 0, TELL, 0, 0, CLOSE, 0, 0, TELL, 0, 0);
    is("never(0), behind a LEAVE", z.never(0), 1);
    atHand(z, 2);
    SliceLoom sixty = new SliceLoom();
    sixty.program();
    lines(sixty, 0, GIVE, 0, 0);
    many(sixty, 0, 59, TELL, 0, 0);
    is("never(0) of 60 LINES", sixty.never(0), 59);
    is("has(0)", sixty.has(0), 0);
    is("has(59)", sixty.has(59), 1);
    SliceLoom all = new SliceLoom();
    all.program();
    many(all, 0, 60, TELL, 0, 0);
    is("never(0) of a straight row of 60", all.never(0), 0);
  }

  private static void neverOfTheFirst() {
    sentence("Promise 17", "(that one is none of them)");
    SliceLoom x = loom(GIVE, 0, 0);
    is("never(0) of a GIVE alone", x.never(0), 0);
    atHand(x);
    SliceLoom y = loom(TELL, 0, 0, GIVE, 0, 0, TELL, 0, 0);
    is("never(0)", y.never(0), 1);
    atHand(y, 2);
    SliceLoom none = loom();
    is("never(0) without LINES", none.never(0), 0);
    atHand(none);
  }

  private static void neverRefused() {
    sentence("Promise 17", "-2 as of used().");
    SliceLoom x = asked();
    is("slice(0, 1)", x.slice(0, 1), 2);
    for (int program : NO_WHOLES) {
      is("never(" + program + ")", x.never(program), -2);
    }
    atHand(x, 0, 1);
    is("never(2), without LINES", x.never(2), 0);
    atHand(x);
  }

  private static void hasNothingAtFirst() {
    sentence("Promise 18", "1 if LINE p is in the SET AT HAND, else 0 (it is empty at first).");
    SliceLoom x = new SliceLoom();
    atHand(x);
    SliceLoom y = asked();
    y.run(0, 9);
    y.hangs(0, 1, 0);
    y.far(0, 1, 0);
    y.cut(0, 1);
    y.beside(0, 0, 0, 0, 9);
    y.traced(0, 0);
    atHand(y);
  }

  private static void hasOfNone() {
    sentence("Promise 18", "1 if LINE p is in the SET AT HAND, else 0");
    SliceLoom x = new SliceLoom();
    x.program();
    many(x, 0, 60, TELL, 0, 0);
    is("used(0)", x.used(0), 60);
    for (int p = 0; p < 60; p++) {
      is("has(" + p + ")", x.has(p), 1);
    }
    for (int p : new int[] {-1, -4, -5, -60, -64, 60, 61, 62, 63, 64, 65, 123, 128, 256, MIN, MIN + 1, MAX,
        MAX - 4}) {
      is("has(" + p + ")", x.has(p), 0);
    }
  }

  private static void hasIsLeft() {
    sentence("Promise 18", "the SET AT HAND");
    SliceLoom x = asked();
    is("slice(0, 1)", x.slice(0, 1), 2);
    x.run(0, 9);
    x.line(0, TELL, 0, 0);
    x.hangs(0, 4, 0);
    x.far(0, 4, 0);
    x.cut(0, 4);
    x.beside(0, 0, 0, 0, 9);
    x.traced(1, 0);
    x.same(0, 1);
    x.program();
    x.start(0, 1);
    atHand(x, 0, 1);
  }

  private static void farOfOne() {
    sentence("Promise 19", "0 when they are one");
    SliceLoom x = loom(SET, 0, e(1, 0, 151), WHILE, 0, name(0), SET, 0, e(2, 0, 151), CLOSE, 0, 0, GIVE, 0, 0);
    for (int s : new int[] {0, 1, 2, 4}) {
      is("far(0, " + s + ", " + s + ")", x.far(0, s, s), 0);
    }
  }

  private static void farOfNone() {
    sentence("Promise 19", "-1 when t is not in the SLICE of s");
    SliceLoom x = loom(SET, 0, number(1), SET, 1, name(0), TELL, 0, name(1), TELL, 0, number(1));
    is("far(0, 0, 1)", x.far(0, 0, 1), -1);
    is("far(0, 2, 3)", x.far(0, 2, 3), -1);
    is("far(0, 3, 0)", x.far(0, 3, 0), -1);
    is("far(0, 0, 2)", x.far(0, 0, 2), -1);
    SliceLoom two = loom(TELL, 0, 0);
    lines(two, 0, TELL, 0, 0);
    is("far(0, 0, 1) of two", two.far(0, 0, 1), -1);
    is("far(0, 1, 0) of two", two.far(0, 1, 0), -1);
  }

  private static void farAnswers() {
    sentence("Promise 19",
        "The least number of times that one must go from a STATEMENT to one on which it HANGS, to come from s "
            + "to t");
    SliceLoom x = new SliceLoom();
    x.program();
    lines(x, 0, SET, 0, number(1));
    for (int i = 1; i < 60; i++) {
      lines(x, 0, SET, i % 2, name(1 - i % 2));
    }
    for (int t = 0; t < 60; t++) {
      is("far(0, 59, " + t + ")", x.far(0, 59, t), 59 - t);
    }
    SliceLoom y = loom(SET, 0, number(1), SET, 1, name(0), SET, 2, name(1), TELL, 0, e(1, 2, 0));
    is("far(0, 3, 0), the shorter one of two", y.far(0, 3, 0), 1);
    is("far(0, 3, 1)", y.far(0, 3, 1), 2);
    SliceLoom turns = loom(WHILE, 0, name(0), SET, 0, name(1), CLOSE, 0, 0);
    is("far(0, 1, 0)", turns.far(0, 1, 0), 1);
    is("far(0, 0, 1)", turns.far(0, 0, 1), 1);
  }

  private static void farRefused() {
    sentence("Promise 19", "-2 as of hangs().");
    SliceLoom x = asked();
    for (int p : NO_STATEMENTS) {
      is("far(0, " + p + ", 0)", x.far(0, p, 0), -2);
      is("far(0, 4, " + p + ")", x.far(0, 4, p), -2);
      is("far(0, " + p + ", " + p + ")", x.far(0, p, p), -2);
    }
    for (int program : NO_WHOLES) {
      is("far(" + program + ", 0, 0)", x.far(program, 0, 0), -2);
    }
    is("far(2, 0, 0), without LINES", x.far(2, 0, 0), -2);
  }

  // ---------------------------------------------------------------- Promises 20 to 23

  private static void promises20To23() {
    cutRefused();
    cutWhenFull();
    becameNumbers();
    becameOfNone();
    sameAnswers();
    sameOfNone();
    besideRefused();
    besideAtNoStatement();
    besideFuel();
    besideSame();
    besideMore();
    besideElse();
    besideOfLeaves();
    besideOfRefused();
    besideRunsB();
  }

  private static void cutRefused() {
    sentence("Promise 20", "-2 as of hangs()");
    SliceLoom x = asked();
    for (int p : NO_STATEMENTS) {
      is("cut(0, " + p + ")", x.cut(0, p), -2);
    }
    for (int program : NO_WHOLES) {
      is("cut(" + program + ", 0)", x.cut(program, 0), -2);
    }
    is("cut(2, 0), without LINES", x.cut(2, 0), -2);
    is("count(0)", x.count(0), 3);
    is("became(0)", x.became(0), -1);
    is("cut(0, 4)", x.cut(0, 4), 3);
  }

  private static void cutWhenFull() {
    sentence("Promise 20", "or when there are 16");
    SliceLoom x = loom(TELL, 0, 0, TELL, 0, number(1));
    for (int i = 1; i < 15; i++) {
      x.program();
    }
    is("cut(0, 1), the 16th", x.cut(0, 1), 15);
    is("LINE 0 of it", x.of(15, 0, 2), number(1));
    is("cut(0, 0), a 17th", x.cut(0, 0), -2);
    is("became(1), of the latest CUT", x.became(1), 0);
    is("became(0)", x.became(0), -1);
    is("count(0)", x.count(0), 16);
    is("count(1)", x.count(1), 3);
    is("run of the 16th", x.run(15, 9), 0);
    tellings(x, 1);
  }

  private static void becameNumbers() {
    sentence("Promise 21", "The number that LINE p had in the PROGRAM has in the latest CUT");
    SliceLoom x = loom(TELL, 0, 0, IF, 0, name(0), TELL, 0, 0, ELSE, 0, 0, SET, 1, number(1), CLOSE, 0, 0,
        TELL, 0, name(1));
    is("cut(0, 6)", x.cut(0, 6), 1);
    int[] want = {-1, 0, -1, 1, 2, 3, 4};
    for (int p = 0; p < want.length; p++) {
      is("became(" + p + ")", x.became(p), want[p]);
    }
    lines(x, 0, TELL, 0, 0);
    lines(x, 1, TELL, 0, 0);
    is("became(7), a LINE later on", x.became(7), -1);
    is("became(6)", x.became(6), 4);
    is("cut(1, 4), of the CUT", x.cut(1, 4), 2);
    for (int p = 0; p < 5; p++) {
      is("became(" + p + ")", x.became(p), p);
    }
    is("became(5)", x.became(5), -1);
    is("became(6), of an earlier CUT", x.became(6), -1);
  }

  private static void becameOfNone() {
    sentence("Promise 21", "-1 when it is not in it, there is no such LINE, or there was no CUT.");
    SliceLoom x = new SliceLoom();
    x.program();
    many(x, 0, 60, TELL, 0, 0);
    for (int p : new int[] {-1, 0, 1, 59, 60, 64, MIN, MAX}) {
      is("became(" + p + ") without a CUT", x.became(p), -1);
    }
    is("cut(0, 59)", x.cut(0, 59), 1);
    for (int p : new int[] {-1, 0, 1, 58, 60, 61, 63, 64, 123, MIN, MAX}) {
      is("became(" + p + ")", x.became(p), -1);
    }
    is("became(59)", x.became(59), 0);
    is("cut(0, 0)", x.cut(0, 0), 2);
    is("became(0)", x.became(0), 0);
    is("became(59)", x.became(59), -1);
    is("became(64)", x.became(64), -1);
  }

  private static void sameAnswers() {
    sentence("Promise 22", "Whether two PROGRAMS have the same LINES: 1, 0.");
    SliceLoom x = loom();
    x.program();
    add(x, TELL, 0, 0);
    add(x, TELL, 0, 0, TELL, 0, 0);
    add(x, TELL, 0, 0, TELL, 0, name(1));
    add(x, TELL, 0, 0, SET, 0, 0);
    add(x, TELL, 0, 0, SET, 1, 0);
    add(x, IF, 0, 0);
    is("same(0, 1), both without LINES", x.same(0, 1), 1);
    for (int a = 0; a < 8; a++) {
      for (int b = 0; b < 8; b++) {
        is("same(" + a + ", " + b + ")", x.same(a, b), a == b || a + b == 1 ? 1 : 0);
      }
    }
    int first = x.program();
    int second = x.program();
    many(x, first, 60, TELL, 0, 0);
    many(x, second, 59, TELL, 0, 0);
    is("same, of 60 and 59", x.same(first, second), 0);
    is("same, of 59 and 60", x.same(second, first), 0);
    lines(x, second, TELL, 0, name(1));
    is("same, but for the 60th", x.same(first, second), 0);
  }

  private static void sameOfNone() {
    sentence("Promise 22", "-2 when one of them is none.");
    SliceLoom x = loom(TELL, 0, 0);
    for (int none : new int[] {-1, 1, 2, 15, 16, MIN, MAX}) {
      is("same(0, " + none + ")", x.same(0, none), -2);
      is("same(" + none + ", 0)", x.same(none, 0), -2);
      is("same(" + none + ", " + none + ")", x.same(none, none), -2);
    }
    SliceLoom empty = new SliceLoom();
    is("same(0, 0) without PROGRAMS", empty.same(0, 0), -2);
  }

  private static void besideRefused() {
    sentence("Promise 23", "-2 when one of them is no PROGRAM, or isn't WHOLE");
    SliceLoom x = asked();
    for (int none : NO_WHOLES) {
      is("beside(" + none + ", 0, 0, 0, 9)", x.beside(none, 0, 0, 0, 9), -2);
      is("beside(0, 0, " + none + ", 0, 9)", x.beside(0, 0, none, 0, 9), -2);
      is("beside(" + none + ", 0, " + none + ", 0, 9)", x.beside(none, 0, none, 0, 9), -2);
    }
    is("beside of one without LINES", x.beside(0, 0, 2, 0, 9), -2);
    is("beside of one without LINES", x.beside(2, 0, 0, 0, 9), -2);
    is("ran(0)", x.ran(0), -1);
    lines(x, 1, CLOSE, 0, 0);
    is("beside of one that is WHOLE then", x.beside(0, 1, 1, 0, 9), 1);
  }

  private static void besideAtNoStatement() {
    sentence("Promise 23", "p or q is no STATEMENT of it");
    SliceLoom x = asked();
    add(x, TELL, 0, 0, TELL, 0, 0, TELL, 0, 0, TELL, 0, 0, TELL, 0, 0, TELL, 0, 0);
    for (int p : NO_STATEMENTS) {
      is("beside(0, " + p + ", 0, 0, 9)", x.beside(0, p, 0, 0, 9), -2);
      is("beside(0, 0, 0, " + p + ", 9)", x.beside(0, 0, 0, p, 9), -2);
    }
    is("beside(0, 5, 3, 0, 9), LINE 5 being just of b", x.beside(0, 5, 3, 0, 9), -2);
    is("beside(3, 0, 0, 5, 9), LINE 5 being just of a", x.beside(3, 0, 0, 5, 9), -2);
    is("beside(3, 5, 0, 4, 9)", x.beside(3, 5, 0, 4, 9), 0);
    is("beside(0, 4, 3, 5, 9)", x.beside(0, 4, 3, 5, 9), 0);
  }

  private static void besideFuel() {
    sentence("Promise 23", "or fuel is not 0 .. 20000");
    SliceLoom x = loom(WHILE, 0, number(1), CLOSE, 0, 0);
    for (int fuel : new int[] {-1, 20001, 40000, MIN, MAX}) {
      is("beside(0, 0, 0, 0, " + fuel + ")", x.beside(0, 0, 0, 0, fuel), -2);
    }
    is("ran(0)", x.ran(0), -1);
    is("beside(0, 0, 0, 0, 0)", x.beside(0, 0, 0, 0, 0), 0);
    is("ran(0)", x.ran(0), 0);
    is("beside(0, 0, 0, 0, 20000)", x.beside(0, 0, 0, 0, 20000), 0);
    is("ran(0)", x.ran(0), 20000);
    add(x, SET, 0, e(1, 0, 151), WHILE, 0, number(1), CLOSE, 0, 0);
    is("beside(0, 0, 1, 1, 20000), 20000 and 19999 numbers", x.beside(0, 0, 1, 1, 20000), 2);
    is("ran(0)", x.ran(0), 20000);
    is("beside(1, 1, 0, 0, 20000), 19999 and 20000", x.beside(1, 1, 0, 0, 20000), 1);
    is("beside(1, 1, 0, 0, 1), none and one", x.beside(1, 1, 0, 0, 1), 1);
    is("beside(0, 0, 1, 1, 1), one and none", x.beside(0, 0, 1, 1, 1), 2);
    SliceLoom late = loom(WHILE, 0, e(6, 0, 150), SET, 0, e(1, 0, 151), CLOSE, 0, 0, TELL, 0, name(0));
    add(late, TELL, 0, number(0));
    late.start(0, -9999);
    is("beside, the 20000th STEP being the first number of a", late.beside(0, 3, 1, 0, 20000), 0);
    is("beside, the 20000th STEP being the first number of b", late.beside(1, 0, 0, 3, 20000), 0);
    is("beside, that of a being beyond the fuel", late.beside(0, 3, 1, 0, 19999), 1);
    is("beside, that of b being beyond the fuel", late.beside(1, 0, 0, 3, 19999), 2);
    is("ran(1)", late.ran(1), 3);
  }

  private static void besideSame() {
    sentence("Promise 23", "0 they are the same");
    SliceLoom x = loom(TELL, 0, number(3), IF, 0, number(0), TELL, 0, number(4), CLOSE, 0, 0);
    add(x, GIVE, 0, 0, TELL, 0, number(5));
    is("beside at one LINE", x.beside(0, 0, 0, 0, 9), 0);
    is("beside where neither comes", x.beside(0, 2, 1, 1, 9), 0);
    is("beside without fuel", x.beside(0, 0, 1, 0, 0), 0);
    SliceLoom last = loom(WHILE, 0, number(1), SET, 0, e(1, 0, 151), CLOSE, 0, 0);
    add(last, WHILE, 0, number(1), SET, 0, e(1, 0, 151), CLOSE, 0, 0);
    is("beside of 10000 numbers each", last.beside(0, 1, 1, 1, 20000), 0);
  }

  /** Tells how often a SET of program 0, and one of program 1, is done. */
  private static SliceLoom rounds(int ofA, int ofB) {
    SliceLoom x = loom(WHILE, 0, e(6, 0, 1), SET, 0, e(1, 0, 151), CLOSE, 0, 0);
    add(x, WHILE, 0, e(6, 0, 2), SET, 0, e(1, 0, 151), CLOSE, 0, 0);
    x.start(1, ofA);
    x.start(2, ofB);
    return x;
  }

  private static void besideMore() {
    sentence("Promise 23", "1 those of a come first, and b has more; 2 those of b come first, and a has more");
    int[] times = {0, 1, 2, 5};
    for (int ofA : times) {
      for (int ofB : times) {
        int want = ofA == ofB ? 0 : ofA < ofB ? 1 : 2;
        SliceLoom x = rounds(ofA, ofB);
        is("beside, " + ofA + " numbers and " + ofB, x.beside(0, 1, 1, 1, 100), want);
        is("ran(0), that of b", x.ran(0), 2 * ofB + 1);
        is("value(0), that of b", x.value(0), ofB);
      }
    }
  }

  private static void besideElse() {
    sentence("Promise 23", "3 else");
    SliceLoom x = loom(TELL, 0, number(1), TELL, 0, number(2));
    is("beside, the first being others", x.beside(0, 0, 0, 1, 9), 3);
    SliceLoom y = loom(SET, 1, number(3), WHILE, 0, e(6, 0, 1), SET, 0, e(1, 0, 151), CLOSE, 0, 0);
    add(y, SET, 1, number(3), WHILE, 0, e(6, 0, 1), SET, 0, e(1, 0, 151), TELL, 0, e(4, 0, 153), CLOSE, 0, 0);
    add(y, WHILE, 0, e(6, 0, 1), SET, 0, e(1, 0, 151), TELL, 0, e(4, 0, 152), CLOSE, 0, 0);
    y.start(1, 5);
    is("beside, 0 0 1 and 0 1 1 2 2", y.beside(1, 3, 2, 2, 90), 3);
    is("beside, 0 1 1 2 2 and 0 0 1", y.beside(2, 2, 1, 3, 90), 3);
    is("beside, 0 0 and 0 1 1 2 2, for want of fuel", y.beside(1, 3, 2, 2, 7), 3);
    is("beside, 0 and 0 1, for want of fuel", y.beside(1, 3, 2, 2, 6), 1);
    is("beside, MIN and MAX", differing(MIN, MAX), 3);
    is("beside, 0 and MIN", differing(0, MIN), 3);
    is("beside, MIN twice", differing(MIN, MIN), 0);
  }

  private static int differing(int first, int second) {
    SliceLoom x = loom(TELL, 0, name(0), TELL, 0, name(1));
    x.start(0, first);
    x.start(1, second);
    return x.beside(0, 0, 0, 1, 9);
  }

  private static void besideOfLeaves() {
    sentence("Promise 23", "(0 of a LEAVE or GIVE");
    SliceLoom x = loom(TELL, 0, number(0), TELL, 0, number(1), WHILE, 0, number(1), LEAVE, 1, 0, CLOSE, 0, 0,
        GIVE, 0, 0);
    x.start(0, 5);
    is("beside, 0 and that of a LEAVE", x.beside(0, 0, 0, 3, 9), 0);
    is("beside, 0 and that of a GIVE", x.beside(0, 0, 0, 5, 9), 0);
    is("beside, 1 and that of a LEAVE", x.beside(0, 1, 0, 3, 9), 3);
    is("beside, that of a GIVE and 1", x.beside(0, 5, 0, 1, 9), 3);
    is("beside, a GIVE, and a LEAVE for want of fuel", x.beside(0, 5, 0, 3, 3), 0);
    is("beside, a GIVE for want of fuel, and a LEAVE", x.beside(0, 5, 0, 3, 4), 1);
  }

  private static void besideOfRefused() {
    sentence("Promise 23", "a STEP that is REFUSED has none)");
    int[][] refused = {{SET, 0, e(4, 151, 150)}, {TELL, 0, e(5, 151, 150)}, {IF, 0, e(8, 0, 149)},
        {WHILE, 0, e(8, 0, 154)},
      {STORE, at(0, 154), number(0)}, {STORE, at(0, 150), e(4, 151, 150)}};
    for (int[] line : refused) {
      SliceLoom x = loom(line);
      if (line[0] == IF || line[0] == WHILE) {
        lines(x, 0, CLOSE, 0, 0);
      }
      add(x, TELL, 0, number(0));
      add(x, GIVE, 0, 0, TELL, 0, 0);
      is("beside, none and 0", x.beside(0, 0, 1, 0, 9), 1);
      is("beside, 0 and none", x.beside(1, 0, 0, 0, 9), 2);
      is("ran(1), the REFUSED one of b", x.ran(1), 0);
      is("beside, none and none", x.beside(0, 0, 2, 1, 9), 0);
      is("beside, none and none", x.beside(2, 1, 0, 0, 9), 0);
    }
    SliceLoom later = loom(WHILE, 0, number(1), SET, 0, e(4, 152, 1), SET, 1, e(2, 1, 151), CLOSE, 0, 0);
    add(later, SET, 0, e(4, 152, 1), SET, 0, number(0));
    later.start(1, 1);
    is("beside, 2 and then a REFUSED one, and 2", later.beside(0, 1, 1, 0, 9), 0);
  }

  private static void besideRunsB() {
    sentence("Promise 23", "The latest RUN, and the RECORD, are that of b then.");
    SliceLoom x = loom(TELL, 0, number(1), SET, 0, number(6), STORE, at(0, 150), number(6), TELL, 0, number(2),
        TELL, 0, number(3));
    add(x, SET, 1, number(7), STORE, at(1, 151), name(1), TELL, 0, number(2), TELL, 0, name(1));
    x.run(0, 9);
    is("beside, with others from the first on", x.beside(0, 0, 1, 2, 9), 3);
    ranAre(x, 4, -1, 2, 1);
    tellings(x, 2, 7);
    steps(x, 0, 1, 2, 3);
    traceIs(x, 1, 0, 1);
    traceIs(x, 3, 0, 3);
    is("value(0)", x.value(0), 0);
    is("value(1)", x.value(1), 7);
    is("place(0, 0)", x.place(0, 0), 0);
    is("place(1, 1)", x.place(1, 1), 7);
    is("beside, the fuel being spent", x.beside(1, 0, 0, 4, 2), 2);
    ranAre(x, 2, 2, 1, 0);
    steps(x, 0, 1);
    is("value(1)", x.value(1), 0);
    is("beside of one PROGRAM", x.beside(0, 4, 0, 0, 9), 3);
    ranAre(x, 5, -1, 3, 0);
    is("a refused beside", x.beside(0, 0, 1, 4, 9), -2);
    ranAre(x, 5, -1, 3, 0);
    steps(x, 0, 1, 2, 3, 4);
  }

  // ---------------------------------------------------------------- Promises 24 to 27

  private static void promises24To27() {
    stepOfNone();
    traceAnswers();
    traceRefused();
    tracedAnswers();
    tracedRefused();
    countAnswers();
    countOfNone();
  }

  private static void stepOfNone() {
    sentence("Promise 24", "The STATEMENT of STEP i of the RECORD; -1 when there is none such.");
    SliceLoom x = loom(WHILE, 0, number(1), TELL, 0, 0, CLOSE, 0, 0);
    is("step(0) before the first RUN", x.step(0), -1);
    is("step(-1) before the first RUN", x.step(-1), -1);
    x.run(0, 5);
    steps(x, 0, 1, 0, 1, 0);
    for (int i : new int[] {-1, 5, 6, 399, 400, MIN, MAX}) {
      is("step(" + i + ")", x.step(i), -1);
    }
    x.run(0, 20000);
    is("step(399)", x.step(399), 1);
    for (int i : new int[] {-1, 400, 401, 19999, 20000, MIN, MAX}) {
      is("step(" + i + ")", x.step(i), -1);
    }
    x.run(0, 3);
    is("step(3), of an earlier RUN", x.step(3), -1);
  }

  private static void traceAnswers() {
    sentence("Promise 25", "The STATEMENTS of the STEPS in the TRACE of STEP i are the SET AT HAND: how many.");
    SliceLoom x = loom(WHILE, 0, e(6, 0, 200), SET, 0, e(1, 0, 151), CLOSE, 0, 0, TELL, 0, name(0), TELL, 0, 0,
        TELL, 0, number(3));
    is("run", x.run(0, 20000), 0);
    is("ran(0)", x.ran(0), 104);
    is("trace(101), of which there are 102 STEPS but three STATEMENTS", x.trace(101), 3);
    atHand(x, 0, 1, 3);
    is("trace(0)", x.trace(0), 1);
    atHand(x, 0);
    is("trace(103)", x.trace(103), 1);
    atHand(x, 5);
    SliceLoom all = new SliceLoom();
    all.program();
    lines(all, 0, SET, 0, number(1));
    for (int i = 1; i < 60; i++) {
      lines(all, 0, SET, i % 2, name(1 - i % 2));
    }
    is("run", all.run(0, 60), 0);
    is("trace(59), of all 60", all.trace(59), 60);
    is("has(0)", all.has(0), 1);
    is("has(59)", all.has(59), 1);
  }

  private static void traceRefused() {
    sentence("Promise 25", "-2 when there is no such STEP in the RECORD.");
    SliceLoom x = loom(TELL, 0, 0, WHILE, 0, number(1), CLOSE, 0, 0);
    is("trace(0) before the first RUN", x.trace(0), -2);
    x.run(0, 3);
    is("trace(2)", x.trace(2), 1);
    for (int i : new int[] {-1, 3, 399, 400, MIN, MAX}) {
      is("trace(" + i + ")", x.trace(i), -2);
    }
    atHand(x, 1);
    x.run(0, 20000);
    is("trace(399)", x.trace(399), 1);
    for (int i : new int[] {-1, 400, 401, 19999, MIN, MAX}) {
      is("trace(" + i + ")", x.trace(i), -2);
    }
    lines(x, 0, TELL, 0, 0);
    is("trace(0) of a RECORD that is empty", x.trace(0), -2);
    atHand(x, 1);
  }

  private static void tracedAnswers() {
    sentence("Promise 26", "Whether STEP j is in the TRACE of STEP i: 1, 0.");
    SliceLoom x = loom(SET, 0, number(1), SET, 1, number(2), TELL, 0, name(0), TELL, 0, name(1));
    x.run(0, 9);
    int[][] want = {{1, 0, 0, 0}, {0, 1, 0, 0}, {1, 0, 1, 0}, {0, 1, 0, 1}};
    for (int i = 0; i < 4; i++) {
      for (int j = 0; j < 4; j++) {
        is("traced(" + i + ", " + j + ")", x.traced(i, j), want[i][j]);
      }
    }
    SliceLoom far = loom(SET, 0, number(1), WHILE, 0, number(1), TELL, 0, name(0), CLOSE, 0, 0);
    far.run(0, 20000);
    is("traced(399, 0)", far.traced(399, 0), 0);
    is("traced(398, 0)", far.traced(398, 0), 1);
    is("traced(398, 397)", far.traced(398, 397), 1);
    is("traced(399, 399)", far.traced(399, 399), 1);
    is("traced(0, 399)", far.traced(0, 399), 0);
    is("traced(397, 398)", far.traced(397, 398), 0);
  }

  private static void tracedRefused() {
    sentence("Promise 26", "-2 when one of them is not in the RECORD.");
    SliceLoom x = loom(TELL, 0, 0, WHILE, 0, number(1), CLOSE, 0, 0);
    is("traced(0, 0) before the first RUN", x.traced(0, 0), -2);
    int[] fuels = {3, 20000};
    for (int fuel : fuels) {
      x.run(0, fuel);
      int size = Math.min(fuel, 400);
      is("traced of the last", x.traced(size - 1, size - 1), 1);
      for (int none : new int[] {-1, size, size + 1, 20000, MIN, MAX}) {
        is("traced(" + none + ", 0)", x.traced(none, 0), -2);
        is("traced(0, " + none + ")", x.traced(0, none), -2);
        is("traced(" + none + ", " + none + ")", x.traced(none, none), -2);
      }
    }
    lines(x, 0, TELL, 0, 0);
    is("traced(0, 0) of a RECORD that is empty", x.traced(0, 0), -2);
  }

  private static void countAnswers() {
    sentence("Promise 27",
        "How many PROGRAMS there are (what 0), LINES in all (1), STEPS in the RECORD (2), LINES in the SET AT "
            + "HAND (3).");
    SliceLoom x = new SliceLoom();
    countsAre(x, 0, 0, 0, 0);
    add(x, TELL, 0, 0, WHILE, 0, number(1), CLOSE, 0, 0);
    add(x, IF, 0, 0);
    countsAre(x, 2, 4, 0, 0);
    is("cut(0, 1)", x.cut(0, 1), 2);
    countsAre(x, 3, 6, 0, 0);
    x.run(0, 20000);
    countsAre(x, 3, 6, 400, 0);
    is("used(0)", x.used(0), 1);
    countsAre(x, 3, 6, 400, 1);
    is("a refused line", x.line(1, LEAVE, 1, 0), -2);
    countsAre(x, 3, 6, 400, 1);
    is("never(0)", x.never(0), 0);
    lines(x, 0, TELL, 0, 0);
    countsAre(x, 3, 7, 0, 0);
    for (int i = 3; i < 16; i++) {
      x.program();
    }
    countsAre(x, 16, 7, 0, 0);
    lines(x, 15, TELL, 0, 0);
    countsAre(x, 16, 8, 0, 0);
  }

  private static void countsAre(SliceLoom x, int... want) {
    for (int what = 0; what < want.length; what++) {
      is("count(" + what + ")", x.count(what), want[what]);
    }
  }

  private static void countOfNone() {
    sentence("Promise 27", "-2 for another what.");
    SliceLoom x = new SliceLoom();
    for (int what : new int[] {-1, 4, 5, 256, MIN, MAX}) {
      is("count(" + what + ")", x.count(what), -2);
    }
  }
}
