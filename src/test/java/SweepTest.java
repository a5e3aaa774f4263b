import java.util.List;
import java.util.Random;

/**
 * Puts every map of one to four pieces, and some of five, to SpanMaps and to the slow model.
 * With the argument "all" every map of five pieces is looked at too; that takes some minutes.
 */
public final class SweepTest {
  private static final int SOME_OF_FIVE = 400;
  private final Check check = new Check();

  public static void main(String[] args) {
    SweepTest sweep = new SweepTest();
    for (int n = 1; n <= 4; n++) {
      for (int number = 0; number < mapsOf(n); number++) {
        sweep.look(n, number);
      }
    }
    boolean all = args.length > 0 && args[0].equals("all");
    Random random = new Random(20261116);
    for (int t = 0; t < (all ? mapsOf(5) : SOME_OF_FIVE); t++) {
      sweep.look(5, all ? t : random.nextInt(mapsOf(5)));
    }
    sweep.check.end();
  }

  private static int mapsOf(int n) {
    int maps = 1;
    for (int i = 0; i <= n; i++) {
      maps *= n + 1;
    }
    return maps;
  }

  private void look(int n, int number) {
    SpanMaps x = new SpanMaps();
    SlowMaps y = new SlowMaps();
    x.map(0, n);
    y.map(0, n);
    int rest = number;
    StringBuilder name = new StringBuilder("map");
    for (int i = 0; i <= n; i++) {
      int v = rest % (n + 1);
      rest /= n + 1;
      name.append(' ').append(v);
      x.corner(0, i, v);
      y.corner(0, i, v);
    }
    lookAtTables(x, y, n, name.toString());
    lookAtRounds(x, y, name.toString());
    lookAtTops(x, y, name.toString());
    lookTurned(x, y, n, name.toString());
    check.due(name + ": digest", x.digest(), y.digest());
  }

  private void lookAtTables(SpanMaps x, SlowMaps y, int n, String name) {
    check.due(name + ": mixes", x.mixes(0), y.mixes(0));
    for (int i = 0; i < n; i++) {
      check.due(name + ": slope " + i, x.slope(0, i), y.slope(0, i));
      check.due(name + ": part " + i, x.part(0, i), y.part(0, i));
      for (int j = 0; j < n; j++) {
        check.due(name + ": table " + i + " " + j, x.table(0, i, j), y.table(0, i, j));
        check.due(name + ": ways " + i + " " + j, x.ways(0, i, j, (i + j + n) % 11), y.ways(0, i, j, (i + j + n) % 11));
      }
    }
    check.due(name + ": pieces 10", x.pieces(0, 10), y.pieces(0, 10));
  }

  private void lookAtRounds(SpanMaps x, SlowMaps y, String name) {
    for (int k = 1; k <= 6; k++) {
      check.due(name + ": rounds " + k, x.rounds(0, k), y.rounds(0, k));
      check.due(name + ": period " + k, x.period(0, k), y.period(0, k));
      check.due(name + ": has " + k, x.has(0, k), y.has(0, k));
      List<Fraction> all = y.allRounds(0, k);
      int many = all == null ? 0 : all.size();
      for (int i = 0; i < many; i++) {
        check.due(name + ": round " + k + " " + i + " a", x.round(0, k, i, 0), all.get(i).above());
        check.due(name + ": round " + k + " " + i + " b", x.round(0, k, i, 1), all.get(i).below());
      }
      check.due(name + ": round behind the last of " + k, x.round(0, k, many, 0), -1);
    }
    check.due(name + ": most", x.most(0), y.most(0));
  }

  private void lookAtTops(SpanMaps x, SlowMaps y, String name) {
    check.due(name + ": top", x.top(0), y.top(0));
    for (int i = 1; i <= 7; i++) {
      check.due(name + ": topWord " + i, x.topWord(0, i), y.topWord(0, i));
    }
    check.due(name + ": topRound 0", x.topRound(0, 0), y.topRound(0, 0));
    check.due(name + ": topRound 1", x.topRound(0, 1), y.topRound(0, 1));
  }

  private void lookTurned(SpanMaps x, SlowMaps y, int n, String name) {
    check.due(name + ": turn", x.turn(0, 5), y.turn(0, 5));
    check.due(name + ": turn itself", x.turn(5, 5), y.turn(5, 5));
    for (int a = 0; a <= 7 * n; a++) {
      check.due(name + ": join " + a, x.join(0, 5, a, 7, 0), y.join(0, 5, a, 7, 0));
      check.due(name + ": far " + a, x.far(0, a, 7, 3, 0), y.far(0, a, 7, 3, 0));
      check.due(name + ": order " + a, x.order(0, a, 7, 7 * n - a, 7, 8), y.order(0, a, 7, 7 * n - a, 7, 8));
    }
  }
}
