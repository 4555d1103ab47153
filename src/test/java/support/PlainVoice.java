import java.util.List;

/** The bodies as Java's own classes have them. */
class PlainVoice {
  int n;
  int m;
  List<Integer> trace;

  static PlainVoice of(int kind, int n, int m, List<Integer> trace) {
    PlainVoice[] all = {new PlainVoice(), new Mirror(), new Throne(), new Curtain(), new Stuck(), new Slow(),
        new Seat()};
    all[kind].n = n;
    all[kind].m = m;
    all[kind].trace = trace;
    return all[kind];
  }

  int casts(int x) {
    trace.add(10);
    return x + n;
  }

  int turns(int x) {
    trace.add(11);
    return casts(x) * 2;
  }

  int lights(int x) {
    trace.add(12);
    return x - m;
  }

  int tells(int x) {
    trace.add(13);
    return turns(x) ^ lights(x);
  }

  static class Mirror extends PlainVoice {
    @Override
    int turns(int x) {
      trace.add(20);
      return super.turns(x) - lights(1);
    }
  }

  static class Throne extends PlainVoice {
    @Override
    int casts(int x) {
      trace.add(30);
      return super.casts(x) * 3;
    }
  }

  static class Curtain extends PlainVoice {
    @Override
    int lights(int x) {
      trace.add(40);
      return -super.lights(x);
    }
  }

  static class Stuck extends Mirror {
    @Override
    int turns(int x) {
      trace.add(50);
      return super.turns(x + 1);
    }
  }

  static class Slow extends Mirror {
    @Override
    int tells(int x) {
      trace.add(60);
      return super.tells(x) - casts(2);
    }
  }

  static class Seat extends Throne {
    @Override
    int lights(int x) {
      trace.add(70);
      return super.lights(x) ^ n;
    }

    @Override
    int tells(int x) {
      trace.add(71);
      return turns(x) - super.tells(x);
    }
  }
}
