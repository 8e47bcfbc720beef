import java.util.ArrayList;
import java.util.List;

/**
 * A loom that may be asked without end, though the document lets an object be used for 512 calls
 * alone: when one is used up, a new one takes over, on which the calls that matter are made again.
 */
final class Relay {
  private static final int MOST_CALLS = 512;

  private interface Call {
    int on(SliceLoom loom);
  }

  /** What a call changes: what lasts, the latest RUN, or the SET AT HAND (by a TRACE or not). */
  private enum Sort { LASTING, RUN, AT_HAND, TRACE }

  private record Deed(Sort sort, Call call) {}

  private SliceLoom loom = new SliceLoom();
  private int calls;
  private List<Deed> deeds = new ArrayList<>();

  private int ask(Call call) {
    if (calls == MOST_CALLS) {
      takeOver();
    }
    calls++;
    return call.on(loom);
  }

  private void takeOver() {
    if (deeds.size() >= MOST_CALLS) {
      throw new IllegalStateException("a state that 512 calls don't make");
    }
    loom = new SliceLoom();
    for (Deed deed : deeds) {
      deed.call.on(loom);
    }
    calls = deeds.size();
  }

  private int change(Sort sort, Call call) {
    int answer = ask(call);
    if (answer != -2) {
      keep(sort, call);
    }
    return answer;
  }

  private void keep(Sort sort, Call call) {
    deeds.add(new Deed(sort, call));
    forgetTheOutdone();
  }

  /** Keeps of the RUNS, and of what made the SET AT HAND, the latest, and the RUN of its TRACE. */
  private void forgetTheOutdone() {
    List<Deed> kept = new ArrayList<>();
    boolean needsRun = true;
    boolean needsSet = true;
    for (int i = deeds.size() - 1; i >= 0; i--) {
      Deed deed = deeds.get(i);
      boolean makesSet = deed.sort == Sort.AT_HAND || deed.sort == Sort.TRACE;
      boolean keeps = deed.sort == Sort.LASTING || deed.sort == Sort.RUN && needsRun || makesSet && needsSet;
      if (!keeps) {
        continue;
      }
      kept.add(0, deed);
      needsSet &= !makesSet;
      needsRun = needsRun && deed.sort != Sort.RUN || deed.sort == Sort.TRACE;
    }
    deeds = kept;
  }

  int program() {
    return change(Sort.LASTING, x -> x.program());
  }

  int line(int program, int kind, int v, int e) {
    return change(Sort.LASTING, x -> x.line(program, kind, v, e));
  }

  /** Kept whatever it answers, since START may have told -2. */
  int start(int name, int v) {
    Call call = x -> x.start(name, v);
    int answer = ask(call);
    keep(Sort.LASTING, call);
    return answer;
  }

  int cut(int program, int s) {
    return change(Sort.LASTING, x -> x.cut(program, s));
  }

  int run(int program, int fuel) {
    return change(Sort.RUN, x -> x.run(program, fuel));
  }

  int beside(int a, int p, int b, int q, int fuel) {
    return change(Sort.RUN, x -> x.beside(a, p, b, q, fuel));
  }

  int slice(int program, int s) {
    return change(Sort.AT_HAND, x -> x.slice(program, s));
  }

  int onward(int program, int t) {
    return change(Sort.AT_HAND, x -> x.onward(program, t));
  }

  int between(int program, int s, int t) {
    return change(Sort.AT_HAND, x -> x.between(program, s, t));
  }

  int used(int program) {
    return change(Sort.AT_HAND, x -> x.used(program));
  }

  int never(int program) {
    return change(Sort.AT_HAND, x -> x.never(program));
  }

  int trace(int i) {
    return change(Sort.TRACE, x -> x.trace(i));
  }

  int of(int program, int p, int what) {
    return ask(x -> x.of(program, p, what));
  }

  int whole(int program) {
    return ask(x -> x.whole(program));
  }

  int ran(int what) {
    return ask(x -> x.ran(what));
  }

  int told(int i) {
    return ask(x -> x.told(i));
  }

  int value(int name) {
    return ask(x -> x.value(name));
  }

  int place(int row, int i) {
    return ask(x -> x.place(row, i));
  }

  int hangs(int program, int s, int t) {
    return ask(x -> x.hangs(program, s, t));
  }

  int has(int p) {
    return ask(x -> x.has(p));
  }

  int far(int program, int s, int t) {
    return ask(x -> x.far(program, s, t));
  }

  int became(int p) {
    return ask(x -> x.became(p));
  }

  int same(int a, int b) {
    return ask(x -> x.same(a, b));
  }

  int step(int i) {
    return ask(x -> x.step(i));
  }

  int traced(int i, int j) {
    return ask(x -> x.traced(i, j));
  }

  int count(int what) {
    return ask(x -> x.count(what));
  }
}
