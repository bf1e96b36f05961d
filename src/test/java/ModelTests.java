import java.util.ArrayList;
import java.util.Arrays;
import java.util.HashSet;
import java.util.List;
import java.util.Random;
import java.util.Set;

/** Long runs of calls, each compared with a slow model that goes over whole pictures, one by one. */
public final class ModelTests {
  private static final int RUNS = 700, CALLS = 160, MOST_CALLS = 512, ENOUGH = 60000, FREE = Integer.MIN_VALUE;

  private static int wrong = 0;
  private static int compared = 0;

  public static void main(String[] args) {
    for (int seed = 0; seed < RUNS && wrong < 20; seed++) {
      new Run(seed).go();
    }
    System.out.println(compared + " answers compared with the model, " + wrong + " unlike");
    if (wrong != 0 || compared < RUNS * CALLS / 2) System.exit(1);
  }

  /** One run of calls on one object. */
  private static final class Run {
    private final Random random;
    private final int seed;
    private final SmallWindows x = new SmallWindows();
    private final Model m = new Model();
    private final StringBuilder told = new StringBuilder();
    private int calls = 0;

    Run(int seed) {
      this.seed = seed;
      this.random = new Random(seed);
    }

    /** For each call once; what an object answers after so many calls is free. */
    void due(String call, int got, int want) {
      calls++;
      if (want == FREE || calls > MOST_CALLS) return;
      compared++;
      if (got != want) {
        wrong++;
        System.out.println("seed " + seed + ": " + call + " answered " + got + ", due is " + want);
        System.out.println("  after" + told);
      }
    }

    int pick(int from, int to) {
      return from + random.nextInt(to - from + 1);
    }

    /** Mostly a number of the range, now and then one beside it or far from it. */
    int near(int from, int to) {
      int kind = random.nextInt(40);
      if (kind == 0) return from - 1;
      if (kind == 1) return to + 1;
      if (kind == 2) return random.nextInt();
      if (kind == 3) return random.nextBoolean() ? Integer.MIN_VALUE : Integer.MAX_VALUE;
      return pick(from, to);
    }

    void go() {
      if (random.nextInt(2) == 0) colours(3);
      makeRule();
      for (int i = 0; i < CALLS && calls < MOST_CALLS && wrong < 20; i++) oneCall();
    }

    void colours(int c) {
      told.append(" colours(" + c + ")");
      due("colours(" + c + ")", x.colours(c), m.colours(c));
    }

    void allow(int block, boolean is) {
      told.append(" allow(" + block + ", " + is + ")");
      due("allow", x.allow(block, is), m.allow(block, is));
    }

    void desk(int h, int w) {
      told.append(" desk(" + h + ", " + w + ")");
      due("desk", x.desk(h, w), m.desk(h, w));
    }

    void paint(long row) {
      told.append(" paint(" + row + "L)");
      due("paint(" + row + ")", x.paint(row), m.paint(row));
    }

    long someRow() {
      long row = 0;
      for (int i = 0; i < 32; i++) row = row << 2 | random.nextInt(i < 7 ? 4 : m.c);
      if (random.nextInt(30) == 0) row |= 3L << 2 * random.nextInt(25);
      return row;
    }

    void learn() {
      told.append(" learn()");
      due("learn", x.learn(), m.learn());
    }

    void makeRule() {
      int kind = random.nextInt(4);
      if (kind == 0) {
        for (int i = pick(1, 4); i > 0; i--) {
          desk(pick(1, 5), pick(1, 5));
          paint(someRow());
          learn();
        }
      } else {
        int border = pick(60, 100);
        int inside = kind == 1 ? 100 : kind == 2 ? pick(60, 98) : pick(20, 60);
        for (int block = 0; block < 256; block++) {
          boolean edge = (block >> 6) == 3 || (block >> 4 & 3) == 3 || (block >> 2 & 3) == 3 || (block & 3) == 3;
          if (random.nextInt(100) < (edge ? kind == 1 ? 100 : border : inside)) allow(block, true);
        }
      }
    }

    void fillDesk() {
      int[] p = m.firstOf(m.h, m.w);
      if (p == null || random.nextInt(3) == 0) {
        paint(someRow());
        return;
      }
      List<int[]> all = m.all(m.h, m.w);
      if (all != null) p = all.get(random.nextInt(all.size()));
      long row = 0;
      for (int i = 0; i < p.length; i++) row |= (long) p[i] << 2 * i;
      paint(row);
    }

    void makeGaps() {
      for (int i = pick(1, m.h * m.w); i > 0; i--) cell(pick(0, m.h * m.w - 1), -1);
    }

    void cell(int cell, int colour) {
      told.append(" cell(" + cell + ", " + colour + ")");
      due("cell", x.cell(cell, colour), m.cell(cell, colour));
    }

    void oneCall() {
      int h = near(1, random.nextInt(3) == 0 ? 5 : 3);
      int w = near(1, random.nextInt(3) == 0 ? 5 : 3);
      int cells = h >= 1 && w >= 1 && h <= 5 && w <= 5 ? h * w : 9;
      int which = random.nextInt(40);
      if (which < 31) plainCall(which, h, w, cells);
      else if (which < 34) fillDesk();
      else if (which < 36) makeGaps();
      else if (which < 38) walkerCalls();
      else if (which == 38) desk(pick(1, 3), pick(1, 4));
      else if (random.nextInt(6) == 0) { colours(pick(2, 3)); makeRule(); }
    }

    void walkerCalls() {
      int n = pick(1, 5);
      told.append(" walker(" + n + ")");
      due("walker", x.walker(n), m.walker(n));
      for (int state = 0; state < n; state++) {
        for (int sees = 0; sees < 4; sees++) act(state, sees, random.nextInt(8) == 0 ? pick(4, 5) : pick(0, 3), pick(0, n - 1));
      }
    }

    void act(int state, int sees, int act, int then) {
      told.append(" act(" + state + ", " + sees + ", " + act + ", " + then + ")");
      due("act", x.act(state, sees, act, then), m.act(state, sees, act, then));
    }

    void plainCall(int which, int h, int w, int cells) {
      int a;
      int b;
      switch (which) {
        case 0: if (random.nextInt(40) == 0) colours(near(2, 3)); break;
        case 1: allow(near(0, 255), random.nextInt(4) != 0); break;
        case 2: desk(h, w); break;
        case 3: cell(near(0, m.h * m.w - 1), near(-1, m.c - 1)); break;
        case 4: paint(someRow()); break;
        case 5: if (random.nextInt(4) == 0) learn(); break;
        case 6: due("wrong()", x.wrong(), m.wrong()); break;
        case 7: a = near(-1, 3); due("blocks(" + a + ")", x.blocks(a), m.blocks(a)); break;
        case 8:
          if (random.nextInt(4) != 0) break;
          a = near(0, 3);
          told.append(" close(" + a + ")");
          due("close(" + a + ")", x.close(a), m.close(a));
          break;
        case 9: due("many(" + h + ", " + w + ")", x.many(h, w), m.many(h, w)); break;
        case 10:
          a = near(0, random.nextInt(3) == 0 ? 999999999 : 40);
          b = near(0, cells - 1);
          due("picture(" + h + ", " + w + ", " + a + ", " + b + ")", x.picture(h, w, a, b), m.picture(h, w, a, b));
          break;
        case 11: due("rank()", x.rank(), m.rank()); break;
        case 12: due("sizes()", x.sizes(), m.sizes()); break;
        case 13: due("endings()", x.endings(), m.endings()); break;
        case 14: a = near(0, m.h * m.w - 1); due("ending(" + a + ")", x.ending(a), m.ending(a)); break;
        case 15: a = near(0, m.h * m.w - 1); due("sure(" + a + ")", x.sure(a), m.sure(a)); break;
        case 16: due("clues()", x.clues(), m.clues()); break;
        case 17:
          a = near(0, m.c - 1);
          b = near(0, 1);
          told.append(" letter(" + a + ", " + b + ")");
          due("letter(" + a + ", " + b + ")", x.letter(a, b), m.letter(a, b));
          break;
        case 18:
          a = m.someLook(random, h, w, near(0, (1 << cells) - 1));
          due("looks(" + h + ", " + w + ", " + a + ")", x.looks(h, w, a), m.looks(h, w, a));
          break;
        case 19:
          a = m.someLook(random, h, w, near(0, (1 << cells) - 1));
          b = near(0, cells - 1);
          due("look(" + h + ", " + w + ", " + a + ", " + b + ")", x.look(h, w, a, b), m.look(h, w, a, b));
          break;
        case 20: due("views(" + h + ", " + w + ")", x.views(h, w), m.views(h, w)); break;
        default: laterCall(which, h, w);
      }
    }

    void laterCall(int which, int h, int w) {
      int a = near(1, 3);
      int b;
      switch (which) {
        case 21:
          b = near(1, random.nextBoolean() ? 60 : 1000000000);
          due("tall(" + a + ", " + b + ")", x.tall(a, b), m.tall(a, b));
          break;
        case 22: due("live(" + a + ")", x.live(a), m.live(a)); break;
        case 23: due("endless(" + a + ")", x.endless(a), m.endless(a)); break;
        case 24: due("lowest(" + a + ")", x.lowest(a), m.lowest(a)); break;
        case 25:
          if (random.nextInt(4) != 0) break;
          a = near(1, 5);
          told.append(" walker(" + a + ")");
          due("walker(" + a + ")", x.walker(a), m.walker(a));
          break;
        case 26: act(near(0, m.n - 1), near(0, 3), near(0, 5), near(0, m.n - 1)); break;
        case 27: case 28: b = near(0, 2); due("walk(" + b + ")", x.walk(b), m.walk(b)); break;
        case 29: due("walked(" + h + ", " + w + ")", x.walked(h, w), m.walked(h, w)); break;
        default: b = near(0, 4); due("count(" + b + ")", x.count(b), m.count(b));
      }
    }
  }

  /** The document's words, done one picture after another; FREE where that would take too long. */
  private static final class Model {
    int c = 2;
    boolean[] allowed = new boolean[256];
    int h = 1, w = 1;
    int[] cells = {-1};
    int[] letters = {0, 1, 0};
    int n = 1;
    int[][] acts = new int[5][4];
    int[][] thens = new int[5][4];

    Model() { reset(); }

    void reset() {
      allowed = new boolean[256];
      h = 1;
      w = 1;
      cells = new int[] {-1};
      letters = new int[] {0, 1, 0};
      walker(1);
    }

    boolean size(int a, int b) { return a >= 1 && a <= 5 && b >= 1 && b <= 5; }

    boolean gaps() {
      for (int v : cells) if (v == -1) return true;
      return false;
    }

    int at(int[] p, int hh, int ww, int y, int x) {
      if (y < 0 || x < 0 || y >= hh || x >= ww) return 3;
      return p[ww * y + x];
    }

    int block(int[] p, int hh, int ww, int window) {
      int y = window / (ww + 1);
      int x = window % (ww + 1);
      return 64 * at(p, hh, ww, y - 1, x - 1) + 16 * at(p, hh, ww, y - 1, x) + 4 * at(p, hh, ww, y, x - 1) + at(p, hh, ww, y, x);
    }

    int bad(int[] p, int hh, int ww) {
      for (int i = 0; i < (hh + 1) * (ww + 1); i++) if (!allowed[block(p, hh, ww, i)]) return i;
      return -1;
    }

    private List<int[]> found;
    private int[] wanted;
    private int limit;
    private int tries;

    /** All pictures that fit, with the colours of 'want' where it is no gap; null: too many. */
    List<int[]> all(int hh, int ww, int[] want, int most) {
      found = new ArrayList<>();
      wanted = want;
      limit = most;
      tries = 0;
      boolean whole = extend(new int[hh * ww], hh, ww, 0);
      return whole || most == 1 && !found.isEmpty() ? found : null;
    }

    List<int[]> all(int hh, int ww) { return all(hh, ww, null, ENOUGH); }

    boolean extend(int[] p, int hh, int ww, int i) {
      if (++tries > 4 * ENOUGH) return false;
      if (i == hh * ww) {
        if (bad(p, hh, ww) == -1) found.add(p.clone());
        return found.size() < limit;
      }
      for (int v = 0; v < c; v++) {
        if (wanted != null && wanted[i] != -1 && wanted[i] != v) continue;
        p[i] = v;
        int y = i / ww;
        int x = i % ww;
        if (allowed[block(p, hh, ww, (ww + 1) * y + x)] && !extend(p, hh, ww, i + 1)) return false;
      }
      return true;
    }

    int[] firstOf(int hh, int ww) {
      List<int[]> list = all(hh, ww, null, 1);
      return list == null || list.isEmpty() ? null : list.get(0);
    }

    /** How many fit, row by row; a row is an array of colours with the ring at both ends. */
    long byRows(int hh, int ww, long mod) {
      List<int[]> rows = rows(ww);
      int[] ring = new int[ww + 2];
      Arrays.fill(ring, 3);
      long[] ways = new long[rows.size()];
      for (int i = 0; i < ways.length; i++) ways[i] = under(ring, rows.get(i)) ? 1 : 0;
      boolean[][] below = below(rows);
      for (int y = 1; y < hh; y++) {
        long[] next = new long[ways.length];
        for (int i = 0; i < ways.length; i++) {
          if (ways[i] == 0) continue;
          for (int j = 0; j < ways.length; j++) if (below[i][j]) next[j] = (next[j] + ways[i]) % mod;
        }
        ways = next;
      }
      long sum = 0;
      for (int i = 0; i < ways.length; i++) if (under(rows.get(i), ring)) sum += ways[i];
      return sum % mod;
    }

    List<int[]> rows(int ww) {
      List<int[]> list = new ArrayList<>();
      int most = (int) Math.round(Math.pow(c, ww));
      for (int r = 0; r < most; r++) {
        int[] row = new int[ww + 2];
        Arrays.fill(row, 3);
        int left = r;
        for (int x = ww; x >= 1; x--) { row[x] = left % c; left /= c; }
        list.add(row);
      }
      return list;
    }

    boolean under(int[] up, int[] low) {
      for (int x = 0; x + 1 < up.length; x++) if (!allowed[64 * up[x] + 16 * up[x + 1] + 4 * low[x] + low[x + 1]]) return false;
      return true;
    }

    boolean[][] below(List<int[]> rows) {
      boolean[][] below = new boolean[rows.size()][rows.size()];
      for (int i = 0; i < rows.size(); i++) for (int j = 0; j < rows.size(); j++) below[i][j] = under(rows.get(i), rows.get(j));
      return below;
    }

    int cap(long number) { return number > 1000000000L ? 1000000001 : (int) number; }

    int colours(int k) {
      if (k != 2 && k != 3) return -3;
      int was = c;
      c = k;
      reset();
      return was;
    }

    int allow(int block, boolean is) {
      if (block < 0 || block > 255) return -3;
      for (int i = 0; i < 4; i++) if ((block >> 2 * i & 3) == 2 && c == 2) return -3;
      int was = allowed[block] ? 1 : 0;
      allowed[block] = is;
      return was;
    }

    int desk(int hh, int ww) {
      if (!size(hh, ww)) return -3;
      h = hh;
      w = ww;
      cells = new int[h * w];
      Arrays.fill(cells, -1);
      return 1;
    }

    int cell(int cell, int colour) {
      if (cell < 0 || cell >= h * w || colour < -1 || colour >= c) return -2;
      int was = cells[cell];
      cells[cell] = colour;
      return was;
    }

    int paint(long row) {
      int[] p = new int[h * w];
      for (int i = 0; i < p.length; i++) {
        p[i] = (int) (row >> 2 * i & 3);
        if (p[i] >= c) return -3;
      }
      cells = p;
      return 1;
    }

    int learn() {
      if (gaps()) return -4;
      int came = 0;
      for (int i = 0; i < (h + 1) * (w + 1); i++) {
        int block = block(cells, h, w, i);
        if (!allowed[block]) came++;
        allowed[block] = true;
      }
      return came;
    }

    int wrong() { return gaps() ? -4 : bad(cells, h, w); }

    int turn(int block, int turn) {
      int[][] old = {{block >> 6, block >> 4 & 3}, {block >> 2 & 3, block & 3}};
      int[][] now = new int[2][2];
      for (int y = 0; y < 2; y++) {
        for (int x = 0; x < 2; x++) {
          int v = old[y][x];
          if (turn == 0) now[x][1 - y] = v;
          else if (turn == 1) now[y][1 - x] = v;
          else if (turn == 2) now[1 - y][x] = v;
          else now[y][x] = v == 0 ? 1 : v == 1 ? 0 : v;
        }
      }
      return 64 * now[0][0] + 16 * now[0][1] + 4 * now[1][0] + now[1][1];
    }

    int blocks(int turn) {
      if (turn < -1 || turn > 3) return -3;
      int sum = 0;
      for (int i = 0; i < 256; i++) if (allowed[i] && (turn == -1 || !allowed[turn(i, turn)])) sum++;
      return sum;
    }

    int close(int turn) {
      if (turn < 0 || turn > 3) return -3;
      int came = 0;
      boolean more = true;
      while (more) {
        more = false;
        for (int i = 0; i < 256; i++) {
          if (allowed[i] && !allowed[turn(i, turn)]) {
            allowed[turn(i, turn)] = true;
            came++;
            more = true;
          }
        }
      }
      return came;
    }

    int many(int hh, int ww) { return size(hh, ww) ? cap(byRows(hh, ww, Long.MAX_VALUE)) : -3; }

    int picture(int hh, int ww, int i, int cell) {
      if (!size(hh, ww) || i < 0 || i > 999999999 || cell < 0 || cell >= hh * ww) return -3;
      List<int[]> list = all(hh, ww);
      if (list == null) return FREE;
      return i < list.size() ? list.get(i)[cell] : -1;
    }

    int rank() {
      if (gaps()) return -4;
      if (bad(cells, h, w) != -1) return -1;
      List<int[]> list = all(h, w);
      if (list == null) return FREE;
      for (int i = 0; i < list.size(); i++) if (Arrays.equals(list.get(i), cells)) return i;
      return FREE;
    }

    int sizes() {
      int bits = 0;
      for (int i = 0; i < 25; i++) if (byRows(i / 5 + 1, i % 5 + 1, Long.MAX_VALUE) > 0) bits |= 1 << i;
      return bits;
    }

    int endings() {
      List<int[]> list = all(h, w, cells, ENOUGH);
      return list == null ? FREE : list.size();
    }

    int ending(int cell) {
      if (cell < 0 || cell >= h * w) return -2;
      List<int[]> list = all(h, w, cells, 1);
      return list == null ? FREE : list.isEmpty() ? -1 : list.get(0)[cell];
    }

    int sure(int cell) {
      if (cell < 0 || cell >= h * w) return -2;
      List<int[]> list = all(h, w, cells, ENOUGH);
      if (list == null) return FREE;
      if (list.isEmpty()) return -1;
      for (int[] p : list) if (p[cell] != list.get(0)[cell]) return -1;
      return list.get(0)[cell];
    }

    int clues() {
      if (gaps() || bad(cells, h, w) != -1 || h * w > 12) return -4;
      List<int[]> list = all(h, w);
      if (list == null) return FREE;
      if (list.size() > 300) return -6;
      for (int size = 0; size <= h * w; size++) {
        for (int set = 0; set < 1 << h * w; set++) {
          if (Integer.bitCount(set) == size && alone(list, set)) return set;
        }
      }
      return FREE;
    }

    boolean alone(List<int[]> list, int set) {
      int alike = 0;
      for (int[] p : list) {
        boolean same = true;
        for (int i = 0; i < p.length; i++) if ((set >> i & 1) != 0 && p[i] != cells[i]) same = false;
        if (same) alike++;
      }
      return alike == 1;
    }

    int letter(int colour, int letter) {
      if (colour < 0 || colour >= c) return -2;
      if (letter != 0 && letter != 1) return -3;
      int was = letters[colour];
      letters[colour] = letter;
      return was;
    }

    int lookOf(int[] p) {
      int bits = 0;
      for (int i = 0; i < p.length; i++) bits |= letters[p[i]] << i;
      return bits;
    }

    int someLook(Random random, int hh, int ww, int other) {
      if (!size(hh, ww) || random.nextInt(4) == 0) return other;
      List<int[]> list = all(hh, ww);
      return list == null || list.isEmpty() ? other : lookOf(list.get(random.nextInt(list.size())));
    }

    int looks(int hh, int ww, int look) {
      if (!size(hh, ww) || look < 0 || look >= 1 << hh * ww) return -3;
      List<int[]> list = all(hh, ww);
      if (list == null) return FREE;
      int sum = 0;
      for (int[] p : list) if (lookOf(p) == look) sum++;
      return sum;
    }

    int look(int hh, int ww, int look, int cell) {
      if (!size(hh, ww) || look < 0 || look >= 1 << hh * ww || cell < 0 || cell >= hh * ww) return -3;
      List<int[]> list = all(hh, ww);
      if (list == null) return FREE;
      for (int[] p : list) if (lookOf(p) == look) return p[cell];
      return -1;
    }

    int views(int hh, int ww) {
      if (!size(hh, ww)) return -3;
      if (hh * ww > 12) return -4;
      List<int[]> list = all(hh, ww);
      if (list == null) return FREE;
      Set<Integer> set = new HashSet<>();
      for (int[] p : list) set.add(lookOf(p));
      return set.size();
    }

    int tall(int ww, int hh) {
      if (ww < 1 || ww > 3 || hh < 1 || hh > 1000000000) return -3;
      long mod = 1000000007L;
      if (hh <= 300) return (int) byRows(hh, ww, mod);
      List<int[]> rows = rows(ww);
      boolean[][] below = below(rows);
      int k = rows.size();
      long[][] result = new long[k][k];
      long[][] base = new long[k][k];
      for (int i = 0; i < k; i++) {
        result[i][i] = 1;
        for (int j = 0; j < k; j++) base[i][j] = below[i][j] ? 1 : 0;
      }
      for (int e = hh - 1; e > 0; e /= 2) {
        if (e % 2 == 1) result = times(result, base, mod);
        base = times(base, base, mod);
      }
      int[] ring = new int[ww + 2];
      Arrays.fill(ring, 3);
      long sum = 0;
      for (int i = 0; i < k; i++) {
        for (int j = 0; j < k; j++) if (under(ring, rows.get(i)) && under(rows.get(j), ring)) sum += result[i][j];
      }
      return (int) (sum % mod);
    }

    long[][] times(long[][] a, long[][] b, long mod) {
      long[][] out = new long[a.length][a.length];
      for (int i = 0; i < a.length; i++) {
        for (int j = 0; j < a.length; j++) {
          long sum = 0;
          for (int k = 0; k < a.length; k++) sum = (sum + a[i][k] * b[k][j]) % mod;
          out[i][j] = sum;
        }
      }
      return out;
    }

    /** For heights 1 .. 60: the rows that stand at level y (from 0) in a picture of that height that fits. */
    boolean[] usedAt(int ww, int hh) {
      List<int[]> rows = rows(ww);
      boolean[][] below = below(rows);
      int[] ring = new int[ww + 2];
      Arrays.fill(ring, 3);
      int k = rows.size();
      boolean[][] from = new boolean[hh][k];
      boolean[][] to = new boolean[hh][k];
      for (int i = 0; i < k; i++) {
        from[0][i] = under(ring, rows.get(i));
        to[hh - 1][i] = under(rows.get(i), ring);
      }
      for (int y = 1; y < hh; y++) {
        for (int i = 0; i < k; i++) {
          for (int j = 0; j < k; j++) {
            if (below[i][j] && from[y - 1][i]) from[y][j] = true;
            if (below[i][j] && to[hh - y][j]) to[hh - y - 1][i] = true;
          }
        }
      }
      boolean[] used = new boolean[k];
      for (int y = 0; y < hh; y++) for (int i = 0; i < k; i++) if (from[y][i] && to[y][i]) used[i] = true;
      return used;
    }

    int live(int ww) {
      if (ww < 1 || ww > 3) return -3;
      Set<Integer> rows = new HashSet<>();
      for (int hh = 1; hh <= 56; hh++) {
        boolean[] used = usedAt(ww, hh);
        for (int i = 0; i < used.length; i++) if (used[i]) rows.add(i);
      }
      return rows.size();
    }

    boolean some(int ww, int hh) {
      for (boolean b : usedAt(ww, hh)) if (b) return true;
      return false;
    }

    int endless(int ww) {
      if (ww < 1 || ww > 3) return -3;
      for (int hh = 28; hh <= 56; hh++) if (some(ww, hh)) return 1;
      return 0;
    }

    int lowest(int ww) {
      if (ww < 1 || ww > 3) return -3;
      for (int hh = 1; hh <= 56; hh++) if (some(ww, hh)) return hh;
      return -1;
    }

    int walker(int k) {
      if (k < 1 || k > 5) return -3;
      n = k;
      acts = new int[5][4];
      thens = new int[5][4];
      for (int[] a : acts) Arrays.fill(a, 5);
      return 1;
    }

    int act(int state, int sees, int act, int then) {
      if (state < 0 || state >= n || then < 0 || then >= n) return -2;
      if (sees < 0 || sees > 3 || act < 0 || act > 5) return -3;
      acts[state][sees] = act;
      thens[state][sees] = then;
      return 1;
    }

    int[] walkOver(int[] p, int hh, int ww) {
      Set<String> been = new HashSet<>();
      int x = 0, y = 0, state = 0, steps = 0;
      while (been.add(x + " " + y + " " + state)) {
        int sees = at(p, hh, ww, y, x);
        int act = acts[state][sees];
        if (act == 4) return new int[] {1, steps, state};
        if (act == 5) return new int[] {0, steps, state};
        steps++;
        x += new int[] {1, 0, -1, 0}[act];
        y += new int[] {0, 1, 0, -1}[act];
        if (x < -1 || y < -1 || x > ww || y > hh) return new int[] {0, steps, state};
        state = thens[state][sees];
      }
      return new int[] {2, steps, state};
    }

    int walk(int what) {
      if (what < 0 || what > 2) return -3;
      return gaps() ? -4 : walkOver(cells, h, w)[what];
    }

    int walked(int hh, int ww) {
      if (!size(hh, ww)) return -3;
      if (hh * ww > 9) return -4;
      List<int[]> list = all(hh, ww);
      if (list == null) return FREE;
      int sum = 0;
      for (int[] p : list) if (walkOver(p, hh, ww)[0] == 1) sum++;
      return sum;
    }

    int count(int what) {
      int gaps = 0;
      for (int v : cells) if (v == -1) gaps++;
      return what < 0 || what > 4 ? -3 : new int[] {c, h, w, gaps, n}[what];
    }
  }
}
