import java.util.ArrayList;
import java.util.List;

/** Tells whether a call has changed anything, by all that later calls can show. */
final class Unchanged {
  /** Makes an object and brings it, by the same calls each time, into one state. */
  interface State {
    Twin reach();
  }

  interface Call {
    int on(Twin x);
  }

  private final Due due;
  private final State state;
  private final List<Integer> answersWithout;

  Unchanged(Due due, State state) {
    this.due = due;
    this.state = state;
    Twin untouched = state.reach();
    // One call that changes nothing, so that both objects have as many calls left.
    untouched.modules();
    this.answersWithout = answers(untouched);
  }

  /** The call answers what is due, and all answers behind it are as without it. */
  void by(String what, Call call, int want) {
    Twin touched = state.reach();
    due.is(what, call.on(touched), want);
    due.isTrue(what + " changes nothing", answers(touched).equals(answersWithout));
  }

  /** The same, whatever the call answers. */
  void always(String what, Call call) {
    Twin touched = state.reach();
    call.on(touched);
    due.isTrue(what + " changes nothing", answers(touched).equals(answersWithout));
  }

  /** The same for a call that may change something, unless it answers a negative number. */
  void ifNegative(String what, Call call) {
    Twin touched = state.reach();
    if (call.on(touched) < 0) {
      due.isTrue(what + " changes nothing", answers(touched).equals(answersWithout));
    }
  }

  private static List<Integer> answers(Twin x) {
    List<Integer> all = new ArrayList<>();
    for (int m = 0; m < 12; m++) {
      all.add(x.module(m));
    }
    askReceiver(x, all);
    // What the receiver is collecting, and the counter it is waiting for, show in what comes next.
    for (int packet = 0; packet < 4; packet++) {
      addPacket(x, all);
      all.add(x.send(1));
      for (int k = 0; k < 6; k++) {
        all.add(x.count(k));
      }
    }
    askReceiver(x, all);
    // The tree shows in what is published next.
    all.add(x.publish());
    all.add(x.modules());
    while (x.callsLeft() >= 17) {
      addPacket(x, all);
      all.add(x.lose(1));
    }
    return all;
  }

  private static void askReceiver(Twin x, List<Integer> all) {
    all.add(x.transaction());
    for (int m = 0; m < 4; m++) {
      all.add(x.held(m));
    }
    for (int a = 0; a < 3; a++) {
      for (int b = 0; b < 2; b++) {
        all.add(x.kind(a, b, 0));
        all.add(x.size(a, b, 0));
        all.add(x.read(a, b, 0, 0));
      }
    }
  }

  private static void addPacket(Twin x, List<Integer> all) {
    for (int value : x.nextPacket()) {
      all.add(value);
    }
  }
}
