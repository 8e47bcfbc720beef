import java.util.ArrayList;
import java.util.List;

/**
 * The two sentences ahead of the Terms of the document: of each refused call, that it is answered
 * so and changes nothing, and in which order it is asked what is wrong.
 */
public final class RefusalBoundaryTests extends Boundary {
  public static void main(String[] args) {
    refusedOfLines();
    refusedOfQuestions();
    refusedOfRuns();
    refusedBeforeAnything();
    refusedWhenFull();
    orderOfWrongs();
    report();
  }

  private interface Call {
    int on(SliceLoom x);
  }

  private interface Maker {
    SliceLoom make();
  }

  private static final int[] NO_PROGRAMS = {-1, 4, 15, 16, 17, MIN, MAX};
  private static final int[] NO_FUELS = {-1, 20001, MIN, MAX};

  /** Programs: 0 WHOLE, 1 with 12 open parts, 2 with 60 LINES, 3 a CUT; a RUN, a SET AT HAND. */
  private static SliceLoom busy() {
    SliceLoom x = loom(
        SET, 0, number(3), STORE, at(1, 152), number(9),
        WHILE, 0, name(0), TELL, 0, name(0), SET, 0, e(2, 0, 151), CLOSE, 0, 0,
        IF, 0, name(1), SET, 2, number(4), ELSE, 0, 0, SET, 2, e(8, 1, 152), CLOSE, 0, 0,
        TELL, 0, name(2));
    x.program();
    many(x, 1, 6, IF, 0, 0);
    many(x, 1, 6, WHILE, 0, 0);
    x.program();
    many(x, 2, 60, TELL, 0, 0);
    x.cut(0, 3);
    x.start(5, 77);
    x.run(0, 100);
    x.slice(0, 11);
    return x;
  }

  private static SliceLoom full() {
    SliceLoom x = busy();
    for (int i = 4; i < 16; i++) {
      x.program();
    }
    return x;
  }

  /** A WHOLE program and one that isn't, and nothing done with them. */
  private static SliceLoom bare() {
    SliceLoom x = loom(TELL, 0, name(5), IF, 0, 0, ELSE, 0, 0, CLOSE, 0, 0);
    add(x, IF, 0, 0);
    x.start(5, 77);
    return x;
  }

  /** What a loom answers to every kind of question, those that change it last. */
  private static List<Integer> picture(SliceLoom x) {
    List<Integer> answers = new ArrayList<>();
    for (int what = 0; what < 4; what++) {
      answers.add(x.count(what));
      answers.add(x.ran(what));
    }
    for (int i = 0; i < 8; i++) {
      answers.add(x.told(i));
      answers.add(x.value(i));
    }
    for (int i = 0; i < 12; i++) {
      answers.add(x.place(i / 4, i % 4));
    }
    for (int p = 0; p < 16; p++) {
      answers.add(x.has(p));
      answers.add(x.became(p));
      answers.add(x.step(p));
      answers.add(x.whole(p));
    }
    for (int program = 0; program < 4; program++) {
      answers.add(x.of(program, 2, 3));
      answers.add(x.same(program, 3));
    }
    for (int j = 0; j < 15; j++) {
      answers.add(x.traced(14, j));
    }
    answers.add(x.trace(14));
    answers.add(x.hangs(0, 3, 2));
    for (int program = 0; program < 4; program++) {
      answers.add(x.line(program, ELSE, 0, 0));
      answers.add(x.line(program, CLOSE, 0, 0));
      answers.add(x.line(program, TELL, 0, 0));
    }
    for (int name = 0; name < 8; name++) {
      answers.add(x.start(name, 1));
    }
    answers.add(x.program());
    answers.add(x.run(0, 100));
    return answers;
  }

  /** Whether a call is refused so, and leaves the loom as one on which it was not made. */
  private static void refused(Maker maker, String words, Call call, int want) {
    SliceLoom x = maker.make();
    is(words, call.on(x), want);
    boolean alike = picture(x).equals(picture(maker.make()));
    is("whether " + words + " changes nothing", alike ? 1 : 0, 1);
  }

  private static void refused(String words, Call call) {
    refused(RefusalBoundaryTests::busy, words, call, -2);
  }

  private static void refusedOfLines() {
    sentence("Terms", "-2 is what a refused call answers; it changes nothing.");
    for (int g : NO_PROGRAMS) {
      refused("line of program " + g, x -> x.line(g, TELL, 0, 0));
    }
    refused("line when it has 60", x -> x.line(2, TELL, 0, 0));
    for (int kind : new int[] {-1, 9, MIN, MAX}) {
      refused("line of KIND " + kind, x -> x.line(0, kind, 0, 0));
    }
    refused("SET of NAME 8", x -> x.line(0, SET, 8, 0));
    refused("STORE into ROW 3", x -> x.line(0, STORE, at(3, 150), 0));
    refused("TELL with x", x -> x.line(0, TELL, 1, 0));
    refused("TELL of SORT 9", x -> x.line(0, TELL, 0, e(9, 0, 0)));
    refused("WHILE with a wrong OPERAND", x -> x.line(0, WHILE, 0, e(1, 0, 99)));
    refused("LEAVE of none", x -> x.line(0, LEAVE, 1, 0));
    refused("LEAVE 7 of 6", x -> x.line(1, LEAVE, 7, 0));
    refused("LEAVE with e", x -> x.line(1, LEAVE, 1, 256));
    refused("GIVE with e", x -> x.line(0, GIVE, 0, 256));
    refused("ELSE of none", x -> x.line(0, ELSE, 0, 0));
    refused("ELSE of a WHILE", x -> x.line(1, ELSE, 0, 0));
    refused("CLOSE of none", x -> x.line(0, CLOSE, 0, 0));
    refused("CLOSE with x", x -> x.line(1, CLOSE, 1, 0));
    refused("a 13th IF", x -> x.line(1, IF, 0, 0));
    refused("a 13th WHILE", x -> x.line(1, WHILE, 0, 0));
  }

  private static void refusedOfQuestions() {
    sentence("Terms", "-2 is what a refused call answers; it changes nothing.");
    int[] noStatements = {-1, 8, 10, 12, 59, 60, 64, 66, MIN, MAX};
    for (int p : noStatements) {
      refused("hangs(0, " + p + ", 0)", x -> x.hangs(0, p, 0));
      refused("hangs(0, 0, " + p + ")", x -> x.hangs(0, 0, p));
      refused("slice(0, " + p + ")", x -> x.slice(0, p));
      refused("onward(0, " + p + ")", x -> x.onward(0, p));
      refused("between(0, " + p + ", 0)", x -> x.between(0, p, 0));
      refused("between(0, 11, " + p + ")", x -> x.between(0, 11, p));
      refused("far(0, " + p + ", 0)", x -> x.far(0, p, 0));
      refused("far(0, 11, " + p + ")", x -> x.far(0, 11, p));
      refused("cut(0, " + p + ")", x -> x.cut(0, p));
    }
    int[] noWholes = {-1, 1, 4, 15, 16, 17, MIN, MAX};
    for (int g : noWholes) {
      refused("hangs(" + g + ", 0, 0)", x -> x.hangs(g, 0, 0));
      refused("slice(" + g + ", 0)", x -> x.slice(g, 0));
      refused("onward(" + g + ", 0)", x -> x.onward(g, 0));
      refused("between(" + g + ", 0, 0)", x -> x.between(g, 0, 0));
      refused("used(" + g + ")", x -> x.used(g));
      refused("never(" + g + ")", x -> x.never(g));
      refused("far(" + g + ", 0, 0)", x -> x.far(g, 0, 0));
      refused("cut(" + g + ", 0)", x -> x.cut(g, 0));
    }
    for (int g : NO_PROGRAMS) {
      refused("whole(" + g + ")", x -> x.whole(g));
      refused("same(" + g + ", 0)", x -> x.same(g, 0));
      refused("same(0, " + g + ")", x -> x.same(0, g));
    }
    for (int what : new int[] {-1, 4, MIN, MAX}) {
      refused("count(" + what + ")", x -> x.count(what));
      refused("ran(" + what + ")", x -> x.ran(what));
    }
  }

  private static void refusedOfRuns() {
    sentence("Terms", "-2 is what a refused call answers; it changes nothing.");
    int[] noWholes = {-1, 1, 4, 15, 16, 17, MIN, MAX};
    for (int g : noWholes) {
      refused("run(" + g + ", 9)", x -> x.run(g, 9));
      refused("beside(" + g + ", 0, 2, 0, 9)", x -> x.beside(g, 0, 2, 0, 9));
      refused("beside(2, 0, " + g + ", 0, 9)", x -> x.beside(2, 0, g, 0, 9));
    }
    for (int fuel : NO_FUELS) {
      refused("run(2, " + fuel + ")", x -> x.run(2, fuel));
      refused("beside(0, 0, 2, 0, " + fuel + ")", x -> x.beside(0, 0, 2, 0, fuel));
    }
    for (int p : new int[] {-1, 8, 10, 12, 60, MIN, MAX}) {
      refused("beside(0, " + p + ", 2, 0, 9)", x -> x.beside(0, p, 2, 0, 9));
      refused("beside(2, 0, 0, " + p + ", 9)", x -> x.beside(2, 0, 0, p, 9));
    }
    for (int i : new int[] {-1, 15, 16, 399, 400, MIN, MAX}) {
      refused("trace(" + i + ")", x -> x.trace(i));
      refused("traced(" + i + ", 0)", x -> x.traced(i, 0));
      refused("traced(0, " + i + ")", x -> x.traced(0, i));
    }
  }

  private static void refusedBeforeAnything() {
    sentence("Terms", "-2 is what a refused call answers; it changes nothing.");
    Maker bare = RefusalBoundaryTests::bare;
    for (int fuel : NO_FUELS) {
      refused(bare, "run(0, " + fuel + ")", x -> x.run(0, fuel), -2);
      refused(bare, "beside(0, 0, 0, 0, " + fuel + ")", x -> x.beside(0, 0, 0, 0, fuel), -2);
    }
    refused(bare, "run(1, 9)", x -> x.run(1, 9), -2);
    refused(bare, "run(2, 9)", x -> x.run(2, 9), -2);
    refused(bare, "beside(0, 0, 1, 0, 9)", x -> x.beside(0, 0, 1, 0, 9), -2);
    refused(bare, "beside(1, 0, 0, 0, 9)", x -> x.beside(1, 0, 0, 0, 9), -2);
    refused(bare, "beside(0, 0, 0, 2, 9)", x -> x.beside(0, 0, 0, 2, 9), -2);
    refused(bare, "beside(0, 3, 0, 0, 9)", x -> x.beside(0, 3, 0, 0, 9), -2);
    refused(bare, "cut(0, 2)", x -> x.cut(0, 2), -2);
    refused(bare, "cut(1, 0)", x -> x.cut(1, 0), -2);
    refused(bare, "slice(0, 3)", x -> x.slice(0, 3), -2);
    refused(bare, "used(1)", x -> x.used(1), -2);
    refused(bare, "never(1)", x -> x.never(1), -2);
    refused(bare, "trace(0)", x -> x.trace(0), -2);
    refused(bare, "traced(0, 0)", x -> x.traced(0, 0), -2);
  }

  private static void refusedWhenFull() {
    sentence("Terms", "-2 is what a refused call answers; it changes nothing.");
    Maker full = RefusalBoundaryTests::full;
    refused(full, "program() when there are 16", x -> x.program(), -2);
    refused(full, "cut(0, 11) when there are 16", x -> x.cut(0, 11), -2);
    refused(full, "line of program 16", x -> x.line(16, TELL, 0, 0), -2);
    refused(full, "slice of program 16", x -> x.slice(16, 0), -2);
    refused(full, "run of program 16", x -> x.run(16, 9), -2);
  }

  private static void orderOfWrongs() {
    sentence("Terms", "What is wrong is asked in the order in which it is told.");
    SliceLoom x = loom(TELL, 0, 0);
    is("ran(4), both before the first RUN and another what", x.ran(4), -1);
    is("ran(-1)", x.ran(-1), -1);
    x.run(0, 9);
    is("ran(4)", x.ran(4), -2);
    is("ran(-1)", x.ran(-1), -2);
  }
}
