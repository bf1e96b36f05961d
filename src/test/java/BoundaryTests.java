import java.io.IOException;
import java.math.BigInteger;
import java.nio.file.Files;
import java.nio.file.Path;
import java.util.ArrayList;
import java.util.Arrays;
import java.util.List;
import java.util.Random;
import java.util.function.IntFunction;

/**
 * For each sentence of the document that names a boundary case a test of its own: the number just inside, the
 * number just outside, and, where a call is refused, a look at all that could have changed.
 */
public final class BoundaryTests {
  private static final int NONE = -1, UNKNOWN = -2, OUTSIDE = -3, NOT = -4, SPENT = -6, MANY = 1000000001;
  private static final int MOST_CALLS = 512, PROMISES = 31;
  private static final String DOCUMENT = "../shared/DOC.md";

  private static final List<List<String>> quotes = new ArrayList<>();
  private static String now = "";
  private static int tests = 0;
  private static int asked = 0;
  private static int wrong = 0;

  public static void main(String[] args) throws IOException {
    for (int i = 0; i <= PROMISES; i++) quotes.add(new ArrayList<>());
    terms();
    rulesAndPictures();
    counts();
    gaps();
    looks();
    tallPictures();
    walkers();
    readDocument();
    System.out.println(tests + " sentences tested by " + asked + " answers, " + wrong + " wrong");
    if (wrong != 0) System.exit(1);
  }

  // ---- how a test is told

  private static void test(int promise, String sentence, Runnable body) {
    now = (promise == 0 ? "terms" : "promise " + promise) + ", \"" + sentence + "\"";
    quotes.get(promise).add(sentence);
    tests++;
    int before = asked;
    try {
      body.run();
    } catch (RuntimeException e) {
      fault("it threw " + e);
    }
    if (asked == before) fault("nothing was asked");
  }

  private static void fault(String text) {
    wrong++;
    if (wrong <= 60) System.out.println(now + ": " + text);
  }

  private static void due(String call, long got, long want) {
    asked++;
    if (got != want) fault(call + " answered " + got + ", due is " + want);
  }

  /** Each quote stands in the document, and the quotes of a part leave none of its words out. */
  private static void readDocument() throws IOException {
    String text = Files.readString(Path.of(DOCUMENT)).replaceAll("\\s+", " ");
    now = "the document";
    readTerms(text);
    for (int promise = 1; promise <= PROMISES; promise++) {
      int from = text.indexOf("## Promise " + promise + ":");
      if (from < 0) {
        fault("it has no promise " + promise);
        continue;
      }
      int to = text.indexOf(" ## ", from);
      String said = text.substring(from, to < 0 ? text.length() : to).replaceFirst("^[^`]*`[^`]*`:", "");
      compareQuotes("promise " + promise, said, quotes.get(promise));
    }
  }

  /** What stands before the promises: the face is left to LanguageTests, and what "is free" to nobody. */
  private static void readTerms(String text) {
    int colours = text.indexOf("======== 1 "), face = text.indexOf("## The public face");
    int terms = text.indexOf("## Terms"), promises = text.indexOf("## Promise 1:"), free = text.indexOf("## Not promised");
    if (colours < 0 || face < colours || terms < face || promises < terms || free < promises) {
      fault("it has other parts");
      return;
    }
    String said = text.substring(colours, face) + text.substring(terms, promises);
    said = said.replaceAll("======== \\d|```(text)?|## Terms|what later calls answer is free", "")
        .replaceAll("Ahead of the calls [^.]* the interface says: ---- [^.]*\\.", "");
    List<String> ofTerms = new ArrayList<>();
    for (String quote : quotes.get(0)) {
      if (text.indexOf(quote, free) < 0) ofTerms.add(quote);
    }
    compareQuotes("what stands before the promises", said, ofTerms);
  }

  private static void compareQuotes(String part, String said, List<String> quoted) {
    String left = said;
    List<String> longestFirst = new ArrayList<>(quoted);
    longestFirst.sort((a, b) -> b.length() - a.length());
    for (String quote : longestFirst) {
      int at = left.indexOf(quote);
      if (at < 0) fault(part + " does not say: " + quote);
      else left = left.substring(0, at) + "|" + left.substring(at + quote.length());
    }
    if (!left.matches("[|.,:; ]*")) fault(part + " has words without a test: " + left);
  }

  /** An object whose calls are counted, since what it answers after the 512th is free. */
  private static final class Counted {
    private final SmallWindows x = new SmallWindows();
    int calls = 0;

    private SmallWindows next() {
      calls++;
      if (calls > MOST_CALLS) throw new IllegalStateException("a test makes more than 512 calls");
      return x;
    }

    int colours(int c) { return next().colours(c); }
    int allow(int block, boolean is) { return next().allow(block, is); }
    int desk(int h, int w) { return next().desk(h, w); }
    int cell(int cell, int colour) { return next().cell(cell, colour); }
    int paint(long row) { return next().paint(row); }
    int learn() { return next().learn(); }
    int wrong() { return next().wrong(); }
    int blocks(int turn) { return next().blocks(turn); }
    int close(int turn) { return next().close(turn); }
    int many(int h, int w) { return next().many(h, w); }
    int picture(int h, int w, int i, int cell) { return next().picture(h, w, i, cell); }
    int rank() { return next().rank(); }
    int sizes() { return next().sizes(); }
    int endings() { return next().endings(); }
    int ending(int cell) { return next().ending(cell); }
    int sure(int cell) { return next().sure(cell); }
    int clues() { return next().clues(); }
    int letter(int colour, int letter) { return next().letter(colour, letter); }
    int looks(int h, int w, int look) { return next().looks(h, w, look); }
    int look(int h, int w, int look, int cell) { return next().look(h, w, look, cell); }
    int views(int h, int w) { return next().views(h, w); }
    int tall(int w, int h) { return next().tall(w, h); }
    int live(int w) { return next().live(w); }
    int endless(int w) { return next().endless(w); }
    int lowest(int w) { return next().lowest(w); }
    int walker(int n) { return next().walker(n); }
    int act(int state, int sees, int act, int then) { return next().act(state, sees, act, then); }
    int walk(int what) { return next().walk(what); }
    int walked(int h, int w) { return next().walked(h, w); }
    int count(int what) { return next().count(what); }
  }

  private interface Maker { Counted make(); }

  private interface Call { int on(Counted x); }

  // ---- objects to ask

  private static Counted of(int c) {
    Counted x = new Counted();
    if (c != 2) x.colours(c);
    return x;
  }

  private static boolean isBlock(int c, int block) {
    for (int i = 0; i < 4; i++) if ((block >> 2 * i & 3) == 2 && c == 2) return false;
    return true;
  }

  /** All blocks are allowed, but not these. */
  private static Counted without(int c, int... blocks) {
    Counted x = of(c);
    boolean[] rule = ruleWithout(blocks);
    for (int block = 0; block < 256; block++) if (rule[block] && isBlock(c, block)) x.allow(block, true);
    return x;
  }

  private static boolean[] ruleWithout(int... blocks) {
    boolean[] rule = new boolean[256];
    Arrays.fill(rule, true);
    for (int block : blocks) rule[block] = false;
    return rule;
  }

  private static Counted only(int c, int... blocks) {
    Counted x = of(c);
    for (int block : blocks) x.allow(block, true);
    return x;
  }

  private static int[] cells(int... colours) { return colours; }

  private static long rowOf(int... cells) {
    long row = 0;
    for (int i = 0; i < cells.length; i++) row |= (long) cells[i] << 2 * i;
    return row;
  }

  private static Counted lay(Counted x, int h, int w, int... cells) {
    x.desk(h, w);
    x.paint(rowOf(cells));
    return x;
  }

  private static Counted learned(int c, int h, int w, int[]... pictures) {
    Counted x = of(c);
    for (int[] picture : pictures) lay(x, h, w, picture).learn();
    return x;
  }

  /** An object with much that could change: the rule, the desk, the letters, the walker. */
  private static Counted busy(int c, int... gaps) {
    Counted x = learned(c, 2, 3, cells(0, 1, 0, c - 1, 0, 1));
    x.close(1);
    x.allow(255, true);
    for (int colour = 0; colour < c; colour++) x.letter(colour, colour == 1 ? 0 : 1);
    x.walker(3);
    for (int state = 0; state < 3; state++) {
      for (int sees = 0; sees < 4; sees++) x.act(state, sees, (state + 2 * sees + 1) % 6, (state + sees) % 3);
    }
    for (int gap : gaps) x.cell(gap, -1);
    return x;
  }

  private static final Maker[] MAKERS = {
    () -> of(2), () -> busy(2), () -> busy(2, 0), () -> busy(3), () -> busy(3, 1, 5)
  };

  // ---- all that can change

  private static List<Integer> ruleTold(Counted x) {
    List<Integer> told = new ArrayList<>();
    for (int block = 0; block < 256; block++) told.add(x.allow(block, false));
    return told;
  }

  private static void addWalk(List<Integer> told, Counted x) {
    for (int what = 0; what < 3; what++) told.add(x.walk(what));
  }

  /** What an object tells of all but its rule; it is used up by that. */
  private static List<Integer> restTold(Counted x) {
    List<Integer> told = new ArrayList<>();
    for (int what = 0; what < 5; what++) told.add(x.count(what));
    addWalk(told, x);
    for (int i = 0; i < 25; i++) told.add(x.cell(i, -1));
    for (int colour = 0; colour < 3; colour++) told.add(x.letter(colour, 0));
    int c = told.get(0);
    int states = told.get(4);
    for (int sees = 0; sees < c; sees++) addWalk(told, lay(x, 1, 1, sees));
    // it is brought in each state before each sight
    for (int state = 0; state < states; state++) {
      for (int sees = 0; sees < c && state > 0; sees++) {
        int first = sees == 0 ? 1 : 0;
        lay(x, 1, 2, first, sees);
        x.act(0, first, 0, state);
        addWalk(told, x);
      }
      lay(x, 1, 1, 0);
      x.act(0, 0, 3, state);
      addWalk(told, x);
    }
    return told;
  }

  /** A call does not change an object, whatever it answers. */
  private static void changesNothing(Maker maker, String name, Call call) {
    Counted x = maker.make();
    call.on(x);
    asked++;
    if (!ruleTold(x).equals(ruleTold(maker.make()))) fault(name + " changed the rule");
    Counted y = maker.make();
    call.on(y);
    asked++;
    if (!restTold(y).equals(restTold(maker.make()))) fault(name + " changed desk, letters or walker");
  }

  private static void refused(Maker maker, String name, int want, Call call) {
    due(name, call.on(maker.make()), want);
    changesNothing(maker, name, call);
  }

  private static void refused(String name, int want, Call call) {
    for (Maker maker : MAKERS) refused(maker, name, want, call);
  }

  private static final int[] FAR = {
    Integer.MIN_VALUE, Integer.MIN_VALUE + 1, -65536, -65535, -256, -255, -7, -6, -5, -4, -3, -2, -1, 7, 256, 257, 65536,
    65537, 1 << 24, 1 << 30, (1 << 30) + 1, Integer.MAX_VALUE - 1, Integer.MAX_VALUE
  };

  /** The numbers just outside a range, and some far outside. */
  private static int[] outside(int least, int most) {
    List<Integer> found = new ArrayList<>(List.of(least - 1, most + 1));
    for (int number : FAR) if ((number < least || number > most) && !found.contains(number)) found.add(number);
    return found.stream().mapToInt(Integer::intValue).toArray();
  }

  private static void allRefused(String name, int want, int least, int most, IntFunction<Call> calls) {
    for (int number : outside(least, most)) refused(name + " of " + number, want, calls.apply(number));
  }

  private interface SizeCall { int on(Counted x, int h, int w); }

  /** No side but 1 .. 5 is taken, whatever the other one is. */
  private static void sizesRefused(String name, SizeCall call) {
    for (int side : outside(1, 5)) {
      for (int other : new int[] {1, 5, 0, side}) {
        refused(name + "(" + side + ", " + other + ")", OUTSIDE, x -> call.on(x, side, other));
        refused(name + "(" + other + ", " + side + ")", OUTSIDE, x -> call.on(x, other, side));
      }
    }
  }

  // ---- a slow model of pictures that fit

  private static int at(int[] p, int h, int w, int y, int x) {
    return y < 0 || x < 0 || y >= h || x >= w ? 3 : p[w * y + x];
  }

  private static int block(int[] p, int h, int w, int window) {
    int y = window / (w + 1);
    int x = window % (w + 1);
    return 64 * at(p, h, w, y - 1, x - 1) + 16 * at(p, h, w, y - 1, x) + 4 * at(p, h, w, y, x - 1) + at(p, h, w, y, x);
  }

  private static boolean fits(boolean[] rule, int[] p, int h, int w) {
    for (int i = 0; i < (h + 1) * (w + 1); i++) if (!rule[block(p, h, w, i)]) return false;
    return true;
  }

  private static int power(int base, int times) {
    int number = 1;
    for (int i = 0; i < times; i++) number *= base;
    return number;
  }

  /** The cells of picture i of all of a size, whether they fit or not. */
  private static int[] any(int c, int size, long i) {
    int[] p = new int[size];
    long left = i;
    for (int cell = size - 1; cell >= 0; cell--) {
      p[cell] = (int) (left % c);
      left /= c;
    }
    return p;
  }

  private static List<int[]> fitting(boolean[] rule, int c, int h, int w) {
    List<int[]> found = new ArrayList<>();
    for (int i = 0; i < power(c, h * w); i++) {
      int[] p = any(c, h * w, i);
      if (fits(rule, p, h, w)) found.add(p);
    }
    return found;
  }

  private static int[] someBlocks(Random random, int c, int most) {
    int[] found = new int[random.nextInt(most + 1)];
    for (int i = 0; i < found.length; i++) {
      do found[i] = random.nextInt(255); while (!isBlock(c, found[i]));
    }
    return found;
  }

  /** Rules whose pictures of five by five are so many; the blocks that are not allowed, of three colours. */
  private static final int[] ONE_BELOW = {
    2, 4, 8, 9, 22, 26, 40, 55, 102, 106, 115, 127, 130, 149, 154, 170, 223, 237, 242, 244, 248
  };
  private static final int[] JUST_NOT_MANY = {
    31, 33, 59, 63, 68, 72, 88, 89, 98, 148, 150, 204, 205, 206, 236, 246, 250, 251
  };
  private static final int[] JUST_MANY = {
    0, 9, 25, 31, 41, 51, 63, 70, 89, 119, 127, 130, 148, 166, 187, 222, 236, 243, 253
  };
  private static final int[] ONE_ABOVE = {9, 15, 24, 25, 73, 102, 170, 207, 220, 221, 222, 236, 242, 245, 251};
  private static final int[][] EDGES = {ONE_BELOW, JUST_NOT_MANY, JUST_MANY, ONE_ABOVE};
  private static final long FIRST_EDGE = 999999999L;

  /** The pictures of a width that fit a rule, row by row; the last number stands for the ring. */
  private static final class Rows {
    private final int w;
    private final int ring;
    private final int[][] rows;
    private final boolean[][] joined;
    /** The ways to go on below a row with so many rows more. */
    private final long[][] below;

    Rows(boolean[] rule, int c, int w) {
      this.w = w;
      ring = power(c, w);
      rows = new int[ring + 1][];
      for (int r = 0; r < ring; r++) rows[r] = any(c, w, r);
      rows[ring] = new int[w];
      Arrays.fill(rows[ring], 3);
      joined = new boolean[ring + 1][ring + 1];
      for (int r = 0; r <= ring; r++) for (int s = 0; s <= ring; s++) joined[r][s] = joins(rule, rows[r], rows[s]);
      below = new long[5][ring];
      for (int r = 0; r < ring; r++) below[0][r] = joined[r][ring] ? 1 : 0;
      for (int more = 1; more < 5; more++) {
        for (int r = 0; r < ring; r++) for (int s = 0; s < ring; s++) if (joined[r][s]) below[more][r] += below[more - 1][s];
      }
    }

    private boolean joins(boolean[] rule, int[] upper, int[] lower) {
      for (int x = 0; x <= w; x++) {
        int left = 64 * at(upper, 1, w, 0, x - 1) + 4 * at(lower, 1, w, 0, x - 1);
        if (!rule[left + 16 * at(upper, 1, w, 0, x) + at(lower, 1, w, 0, x)]) return false;
      }
      return true;
    }

    long size(int h) {
      long sum = 0;
      for (int r = 0; r < ring; r++) if (joined[ring][r]) sum += below[h - 1][r];
      return sum;
    }

    int[] picture(int h, long place) {
      int[] p = new int[h * w];
      int above = ring;
      long left = place;
      for (int y = 0; y < h; y++) {
        int r = 0;
        while (!joined[above][r] || below[h - 1 - y][r] <= left) {
          if (joined[above][r]) left -= below[h - 1 - y][r];
          r++;
        }
        System.arraycopy(rows[r], 0, p, w * y, w);
        above = r;
      }
      return p;
    }
  }

  /** The pictures of three colours and five columns of the rule of an edge. */
  private static Rows edge(int i) { return new Rows(ruleWithout(EDGES[i]), 3, 5); }

  // ---- terms

  private static void terms() {
    test(0, "COLOURS are 0 .. c - 1 (c 2 or 3; 2 at first)", BoundaryTests::termColours);
    test(0, "3 is THE BORDER", BoundaryTests::termBorder);
    test(0, "An object is used for at most 512 calls after it has been made", BoundaryTests::term512Calls);
    test(0, "A PICTURE has h ROWS (1 .. 5) of w CELLS (1 .. 5), CELL w y + x (y downward)", BoundaryTests::termCells);
    test(0, "a ring of BORDER lies around it", BoundaryTests::termRing);
    test(0, "Its WINDOWS are the (h + 1) (w + 1) blocks of two by two that lie in PICTURE and ring", BoundaryTests::termWindows);
    test(0, "WINDOW (w + 1) y + x has its lower right part in ROW y, column x (or in the ring below, to the right)",
        BoundaryTests::termWindowNumbers);
    test(0, "A block is told by 64 a + 16 b + 4 c + d (a, b its upper parts from the left, c, d its lower ones)",
        BoundaryTests::termBlocks);
    test(0, "THE RULE tells which blocks are ALLOWED (none at first)", BoundaryTests::termRule);
    test(0, "A PICTURE FITS, if the blocks of all its WINDOWS are ALLOWED", BoundaryTests::termFits);
    test(0, "PICTURES of a size come in order by their first CELL that is unlike", BoundaryTests::termOrder);
    test(0, "THE DESK has a PICTURE (one CELL at first), whose CELLS may be GAPS (at first)", BoundaryTests::termDesk);
    test(0, "ENDINGS of THE DESK are PICTURES of its size that FIT and have all CELLS that are no GAPS as it has",
        BoundaryTests::termEndings);
    test(0, "SURE is a COLOUR of a CELL that all ENDINGS have there", BoundaryTests::termSure);
    test(0, "CLUES: the fewest CELLS of THE DESK's PICTURE (without GAPS; it FITS) such that no other PICTURE of its size"
        + " that FITS has these CELLS as it has", BoundaryTests::termClues);
    test(0, "of several sets the least number (by bits)", BoundaryTests::termLeastClues);
    test(0, "MANY: more than 1000000000", BoundaryTests::termMany);
    test(0, "Each COLOUR has a LETTER (0 or 1; 0 for 0, 1 for 1, 0 for 2 at first)", BoundaryTests::termLetters);
    test(0, "The LOOK of a PICTURE: the LETTERS of its CELLS, by bits (CELL i: bit i)", BoundaryTests::termLook);
    test(0, "TALL PICTURES have w columns (1 .. 3) and any height", BoundaryTests::termTall);
    test(0, "A ROW is LIVE, if it is in some of them that FITS", BoundaryTests::termLive);
    test(0, "ENDLESS: there are such of heights without end", BoundaryTests::termEndless);
    test(0, "THE WALKER has STATES 0 .. n - 1 (1 .. 5; one at first)", BoundaryTests::termStates);
    test(0, "for each STATE and what it sees (a COLOUR, or 3 BORDER) an ACT", BoundaryTests::termActs);
    test(0, "0 .. 3: one step (to greater x, greater y, lesser x, lesser y), and a STATE then", BoundaryTests::termSteps);
    test(0, "4: it TAKES; 5: it LEAVES (at first, all)", BoundaryTests::termTakesLeaves);
    test(0, "It begins in STATE 0 in CELL 0 of THE DESK's PICTURE, and goes over PICTURE and ring", BoundaryTests::termGoes);
    test(0, "a step out of the ring: it LEAVES", BoundaryTests::termStepOut);
    test(0, "where it comes again in the same STATE to the same place it is AROUND", BoundaryTests::termAround);
    test(0, "TURNS of blocks: 0 a quarter turn (what is upper left comes upper right), 1 mirrored (left and right changed),"
        + " 2 upside down (upper and lower changed), 3 COLOURS 0 and 1 changed", BoundaryTests::termTurns);
    test(0, "THE RULE is CLOSED under a TURN, if the TURN of each block that is ALLOWED is, too", BoundaryTests::termClosed);
    test(0, "Refused, and nothing changes: UNKNOWN (no such CELL, COLOUR, STATE), OUTSIDE (another number is not as told),"
        + " NOT (not now: as told), SPENT: the first of these that fits", BoundaryTests::termFirstRefusal);
    test(0, "answers and state changes described above", BoundaryTests::asksChangeNothing);
    test(0, "answers and state changes described above", BoundaryTests::asksAreForgotten);
  }

  private static void termColours() {
    Counted x = new Counted();
    due("count(0)", x.count(0), 2);
    due("cell(0, 1)", x.cell(0, 1), NONE);
    due("cell(0, 2) of two", x.cell(0, 2), UNKNOWN);
    x.colours(3);
    due("cell(0, 2) of three", x.cell(0, 2), NONE);
    due("cell(0, 3) of three", x.cell(0, 3), UNKNOWN);
    for (int c = 2; c <= 3; c++) {
      x = without(c);
      due("many(1, 1)", x.many(1, 1), c);
      for (int i = 0; i < c; i++) due("picture(1, 1, " + i + ", 0)", x.picture(1, 1, i, 0), i);
    }
  }

  private static void termBorder() {
    refused("cell(0, 3)", UNKNOWN, x -> x.cell(0, 3));
    refused("letter(3, 0)", UNKNOWN, x -> x.letter(3, 0));
    refused("paint(3)", OUTSIDE, x -> x.paint(3));
    for (int c = 2; c <= 3; c++) {
      Counted x = of(c);
      due("allow(255, true)", x.allow(255, true), 0);
      x.paint(0);
      x.act(0, 0, 0, 0);
      x.act(0, 3, 4, 0);
      due("walk(0), to the border", x.walk(0), 1);
    }
  }

  private static int[] allAsks(Counted x) {
    return new int[] {
      x.count(0), x.blocks(-1), x.blocks(3), x.wrong(), x.many(5, 5), x.picture(4, 3, 4095, 11), x.rank(), x.sizes(),
      x.endings(), x.ending(7), x.sure(7), x.clues(), x.looks(4, 4, 65535), x.look(4, 4, 65535, 15), x.views(3, 4),
      x.tall(3, 1000000000), x.live(3), x.endless(3), x.lowest(3), x.walk(0), x.walk(1), x.walk(2), x.walked(3, 3)
    };
  }

  private static void term512Calls() {
    Counted x = lay(without(2), 2, 4, 0, 1, 0, 1, 0, 1, 0, 1);
    // along the first row into the ring, down, and back to the second row's last cell, which it takes where it is 1
    x.walker(2);
    for (int sees = 0; sees < 2; sees++) x.act(0, sees, 0, 0);
    x.act(0, 3, 1, 1);
    x.act(1, 3, 2, 1);
    x.act(1, 1, 4, 1);
    int[] want = {
      2, 81, 0, NONE, 1 << 25, 1, 0x55, (1 << 25) - 1, 1, 1, 1, 255, 1, 1, 4096, modPower(2, 3000000000L), 8, 1, 1, 1, 6, 1, 256
    };
    int rounds = (MOST_CALLS - x.calls) / want.length;
    for (int i = 0; i < rounds; i++) {
      int[] got = allAsks(x);
      for (int k = 0; k < want.length; k++) due("ask " + k + " in round " + i, got[k], want[k]);
    }
    while (x.calls < MOST_CALLS - 1) due("count(2)", x.count(2), 4);
    due("the 512th call, clues()", x.clues(), 255);
    due("calls", x.calls, MOST_CALLS);
  }

  private static int modPower(int base, long exponent) {
    return BigInteger.valueOf(base).modPow(BigInteger.valueOf(exponent), BigInteger.valueOf(1000000007L)).intValue();
  }

  private static void termCells() {
    for (int h = 1; h <= 5; h++) {
      for (int w = 1; w <= 5; w++) {
        Counted x = new Counted();
        for (int block = 0; block < 256; block++) if (fits03(block)) x.allow(block, true);
        due("desk(" + h + ", " + w + ")", x.desk(h, w), 1);
        for (int cell = 0; cell < h * w; cell++) {
          x.paint(1L << 2 * cell);
          due("wrong() with 1 in cell " + cell, x.wrong(), (w + 1) * (cell / w) + cell % w);
        }
        due("the last cell", x.cell(h * w - 1, 0), 1);
        due("one cell more", x.cell(h * w, 0), UNKNOWN);
      }
    }
    Counted x = new Counted();
    for (int[] size : new int[][] {{0, 1}, {6, 1}, {1, 0}, {1, 6}, {0, 0}, {6, 6}}) {
      due("desk(" + size[0] + ", " + size[1] + ")", x.desk(size[0], size[1]), OUTSIDE);
    }
  }

  /** Whether a block has no parts but 0 and the border. */
  private static boolean fits03(int block) {
    for (int i = 0; i < 4; i++) if ((block >> 2 * i & 3) != 0 && (block >> 2 * i & 3) != 3) return false;
    return true;
  }

  private static void termRing() {
    for (int c = 2; c <= 3; c++) {
      for (int v = 0; v < c; v++) {
        Counted x = learned(c, 1, 1, cells(v));
        due("blocks(-1)", x.blocks(-1), 4);
        // 3 3 / 3 v, 3 3 / v 3, 3 v / 3 3, v 3 / 3 3
        for (int block : new int[] {252 + v, 243 + 4 * v, 207 + 16 * v, 63 + 64 * v}) due("allow(" + block + ")", x.allow(block, true), 1);
        due("the ring alone", x.allow(255, true), 0);
      }
    }
  }

  /** A picture whose blocks are much unlike. */
  private static int[] mixed(int c, int size) {
    int[] p = new int[size];
    int number = 7;
    for (int i = 0; i < size; i++) {
      number = number * 1103515245 + 12345;
      p[i] = (number >>> 16) % c;
    }
    return p;
  }

  private static void termWindows() {
    for (int h = 1; h <= 5; h++) {
      for (int w = 1; w <= 5; w++) {
        int[] p = mixed(3, h * w);
        boolean[] in = new boolean[256];
        int size = 0;
        for (int i = 0; i < (h + 1) * (w + 1); i++) {
          if (!in[block(p, h, w, i)]) size++;
          in[block(p, h, w, i)] = true;
        }
        Counted x = lay(of(3), h, w, p);
        due("learn() of " + h + " x " + w, x.learn(), size);
        due("wrong() of " + h + " x " + w, x.wrong(), NONE);
        for (int i = 0; i < 256; i++) due("allow(" + i + ", true)", x.allow(i, true), in[i] ? 1 : 0);
      }
    }
  }

  private static void termWindowNumbers() {
    for (int h = 1; h <= 5; h++) {
      for (int w = 1; w <= 5; w++) {
        int[] p = mixed(3, h * w);
        Counted x = learned(3, h, w, p);
        for (int i = 0; i < (h + 1) * (w + 1); i++) {
          int block = block(p, h, w, i);
          int least = 0;
          while (block(p, h, w, least) != block) least++;
          x.allow(block, false);
          due("wrong() without the block of window " + i, x.wrong(), least);
          x.allow(block, true);
        }
        // the last window is the only one with nothing but ring to its right and below
        x.allow(63 + 64 * p[h * w - 1], false);
        due("wrong() in the last window", x.wrong(), (h + 1) * (w + 1) - 1);
      }
    }
  }

  /** The windows of 0 1 / 2 0, in order. */
  private static final int[] NINE = {252, 241, 247, 206, 24, 115, 239, 143, 63};

  private static void termBlocks() {
    Counted x = lay(of(3), 2, 2, 0, 1, 2, 0);
    for (int i = 0; i < 9; i++) {
      due("wrong() at " + i, x.wrong(), i);
      due("allow(" + NINE[i] + ", true)", x.allow(NINE[i], true), 0);
    }
    due("wrong()", x.wrong(), NONE);
    due("learn()", x.learn(), 0);
  }

  private static void termRule() {
    Counted x = new Counted();
    due("blocks(-1)", x.blocks(-1), 0);
    due("sizes()", x.sizes(), 0);
    x.paint(0);
    due("wrong()", x.wrong(), 0);
    for (int block : ruleTold(of(3))) due("a block of a new one", block, 0);
  }

  private static void termFits() {
    Counted x = lay(only(3, NINE), 2, 2, 0, 1, 2, 0);
    due("many(2, 2)", x.many(2, 2), 1);
    due("rank()", x.rank(), 0);
    for (int i = 0; i < 9; i++) {
      x.allow(NINE[i], false);
      due("many(2, 2) without window " + i, x.many(2, 2), 0);
      due("rank() without window " + i, x.rank(), NONE);
      due("wrong() without window " + i, x.wrong(), i);
      due("endings() without window " + i, x.endings(), 0);
      x.allow(NINE[i], true);
    }
    due("rank()", x.rank(), 0);
    // in the corners of a greater picture, too
    int[] p = mixed(3, 25);
    for (int corner : new int[] {252 + p[0], 243 + 4 * p[4], 207 + 16 * p[20], 63 + 64 * p[24]}) {
      x = learned(3, 5, 5, p);
      due("rank() of five by five", x.rank() >= 0 ? 1 : 0, 1);
      x.allow(corner, false);
      due("rank() without a corner", x.rank(), NONE);
      due("endings() without a corner", x.endings(), 0);
    }
  }

  private static void termOrder() {
    Counted x = without(3);
    for (int i : new int[] {0, 1, 2, 3, 26, 27, 28, 53, 54, 79, 80}) {
      for (int cell = 0; cell < 4; cell++) due("picture(2, 2, " + i + ", " + cell + ")", x.picture(2, 2, i, cell), any(3, 4, i)[cell]);
    }
    Random random = new Random(11);
    for (int k = 0; k < 40; k++) {
      int[] not = someBlocks(random, 2, 30);
      int h = 1 + random.nextInt(3);
      int w = 1 + random.nextInt(3);
      List<int[]> all = fitting(ruleWithout(not), 2, h, w);
      x = without(2, not);
      for (int i : new int[] {0, 1, all.size() / 2, all.size() - 2, all.size() - 1}) {
        for (int cell = 0; cell < h * w && i >= 0; cell++) {
          due("picture(" + h + ", " + w + ", " + i + ", " + cell + ")", x.picture(h, w, i, cell), i < all.size() ? all.get(i)[cell] : NONE);
        }
      }
    }
  }

  private static void termDesk() {
    Counted x = new Counted();
    due("count(1)", x.count(1), 1);
    due("count(2)", x.count(2), 1);
    due("count(3)", x.count(3), 1);
    due("cell(1, 0)", x.cell(1, 0), UNKNOWN);
    due("walk(0)", x.walk(0), NOT);
    due("cell(0, 0)", x.cell(0, 0), NONE);
    due("count(3)", x.count(3), 0);
  }

  private static List<int[]> endingsOf(List<int[]> all, int[] desk) {
    List<int[]> found = new ArrayList<>();
    for (int[] p : all) {
      boolean has = true;
      for (int i = 0; i < p.length; i++) has &= desk[i] == NONE || desk[i] == p[i];
      if (has) found.add(p);
    }
    return found;
  }

  /** A desk with gaps on an object of its own, beside all its endings. */
  private static final class Gapped {
    final Counted x;
    final List<int[]> endings;
    final int size;

    Gapped(Random random) {
      int c = 2 + random.nextInt(2);
      int h = 1 + random.nextInt(c == 2 ? 3 : 2);
      int w = 1 + random.nextInt(3);
      int[] not = someBlocks(random, c, c == 2 ? 25 : 60);
      List<int[]> all = fitting(ruleWithout(not), c, h, w);
      x = without(c, not);
      x.desk(h, w);
      size = h * w;
      int[] desk = all.isEmpty() ? any(c, size, 1) : all.get(random.nextInt(all.size())).clone();
      for (int i = 0; i < size; i++) {
        if (random.nextInt(3) != 0) desk[i] = NONE;
        else if (random.nextInt(6) == 0) desk[i] = random.nextInt(c);
        x.cell(i, desk[i]);
      }
      endings = endingsOf(all, desk);
    }
  }

  private static void termEndings() {
    Random random = new Random(12);
    for (int k = 0; k < 120; k++) {
      Gapped g = new Gapped(random);
      due("endings()", g.x.endings(), g.endings.size());
      for (int i = 0; i < g.size; i++) due("ending(" + i + ")", g.x.ending(i), g.endings.isEmpty() ? NONE : g.endings.get(0)[i]);
    }
  }

  private static void termSure() {
    Random random = new Random(13);
    for (int k = 0; k < 120; k++) {
      Gapped g = new Gapped(random);
      for (int i = 0; i < g.size; i++) {
        int seen = 0;
        for (int[] p : g.endings) seen |= 1 << p[i];
        due("sure(" + i + ")", g.x.sure(i), Integer.bitCount(seen) == 1 ? Integer.numberOfTrailingZeros(seen) : NONE);
      }
    }
  }

  /** The fewest cells that tell a picture from all others, and of these the least number. */
  private static int cluesOf(List<int[]> all, int[] own) {
    for (int size = 0; size <= own.length; size++) {
      for (int set = 0; set < 1 << own.length; set++) {
        if (Integer.bitCount(set) == size && tells(all, own, set)) return set;
      }
    }
    return NONE;
  }

  private static boolean tells(List<int[]> all, int[] own, int set) {
    int alike = 0;
    for (int[] p : all) {
      boolean same = true;
      for (int i = 0; i < p.length; i++) same &= (set >> i & 1) == 0 || p[i] == own[i];
      if (same) alike++;
    }
    return alike == 1;
  }

  private static void termClues() {
    Random random = new Random(14);
    for (int k = 0; k < 80; k++) {
      int c = 2 + random.nextInt(2);
      int h = 1 + random.nextInt(c == 2 ? 3 : 2);
      int w = 1 + random.nextInt(3);
      int[] not = someBlocks(random, c, c == 2 ? 30 : 90);
      List<int[]> all = fitting(ruleWithout(not), c, h, w);
      if (all.isEmpty() || all.size() > 300) continue;
      Counted x = without(c, not);
      for (int i = 0; i < 6; i++) {
        int[] own = all.get(random.nextInt(all.size()));
        due("clues()", lay(x, h, w, own).clues(), cluesOf(all, own));
      }
    }
  }

  private static void termLeastClues() {
    // 0 0 0 and 1 1 1: any one cell tells
    due("clues() of three sets", learned(2, 1, 3, cells(0, 0, 0), cells(1, 1, 1)).clues(), 1);
    due("clues() of three sets, down", learned(2, 3, 1, cells(0, 0, 0), cells(1, 1, 1)).clues(), 1);
    // rows without 1 beside 1: 0 0 0, 0 0 1, 0 1 0, 1 0 0, 1 0 1
    Counted x = without(2, 245, 95);
    due("many(1, 3)", x.many(1, 3), 5);
    due("clues() of 0 0 0", lay(x, 1, 3, 0, 0, 0).clues(), 7);
    due("clues() of 0 0 1", lay(x, 1, 3, 0, 0, 1).clues(), 5);
    due("clues() of 0 1 0", lay(x, 1, 3, 0, 1, 0).clues(), 2);
    due("clues() of 1 0 1", lay(x, 1, 3, 1, 0, 1).clues(), 5);
    fewestBeforeLeast();
  }

  /** Pictures that a set of more cells but of a lesser number tells, too. */
  private static void fewestBeforeLeast() {
    Random random = new Random(15);
    int found = 0;
    for (int k = 0; k < 2000 && found < 30; k++) {
      int[] not = someBlocks(random, 2, 30);
      List<int[]> all = fitting(ruleWithout(not), 2, 2, 3);
      for (int[] own : all) {
        int least = 0;
        while (!tells(all, own, least)) least++;
        int fewest = cluesOf(all, own);
        if (least == fewest) continue;
        found++;
        due("clues()", lay(without(2, not), 2, 3, own).clues(), fewest);
      }
    }
    due("pictures of this kind", Math.min(found, 30), 30);
  }

  private static void termMany() {
    for (int i = 0; i < 4; i++) {
      long size = FIRST_EDGE + i;
      due("the model's number", edge(i).size(5), size);
      int want = size > 1000000000L ? MANY : (int) size;
      Counted x = without(3, EDGES[i]);
      due("many(5, 5) of " + size, x.many(5, 5), want);
      x.desk(5, 5);
      due("endings() of " + size, x.endings(), want);
      x.letter(1, 0);
      due("looks(5, 5, 0) of " + size, x.looks(5, 5, 0), want);
    }
  }

  private static void termLetters() {
    for (int c = 2; c <= 3; c++) {
      int[] want = {0, 1, c == 2 ? UNKNOWN : 0};
      for (int colour = 0; colour < 3; colour++) {
        due("letter(" + colour + ", 0)", of(c).letter(colour, 0), want[colour]);
        due("letter(" + colour + ", 1)", of(c).letter(colour, 1), want[colour]);
        due("letter(" + colour + ", -1)", of(c).letter(colour, -1), want[colour] == UNKNOWN ? UNKNOWN : OUTSIDE);
        due("letter(" + colour + ", 2)", of(c).letter(colour, 2), want[colour] == UNKNOWN ? UNKNOWN : OUTSIDE);
      }
    }
    Counted x = without(3);
    due("looks(1, 1, 0): 0 and 2", x.looks(1, 1, 0), 2);
    due("looks(1, 1, 1): 1", x.looks(1, 1, 1), 1);
  }

  private static void termLook() {
    Counted x = without(2);
    for (int i = 0; i < 25; i++) {
      due("looks(5, 5, bit " + i + ")", x.looks(5, 5, 1 << i), 1);
      for (int cell : new int[] {i, (i + 1) % 25, (i + 5) % 25}) {
        due("look(5, 5, bit " + i + ", " + cell + ")", x.look(5, 5, 1 << i, cell), cell == i ? 1 : 0);
      }
    }
    // by letters, not by colours
    x.letter(0, 1);
    x.letter(1, 0);
    for (int i = 0; i < 6; i++) due("look(2, 3, bit " + i + ", " + i + ")", x.look(2, 3, 1 << i, i), 0);
  }

  /** Rows count in threes, the last cell the lowest; from all 0 to all 2, and then, perhaps, from the first again. */
  private static Counted counter(boolean goesRound) {
    Counted x = only(3, 252, 240, 243, 239, 175, 191);
    for (int a = 0; a < 3; a++) {
      int next = (a + 1) % 3;
      x.allow(64 * a + 48 + 4 * next + 3, true);
      x.allow(192 + 16 * a + 12 + a, true);
      if (goesRound || next != 0) x.allow(192 + 16 * a + 12 + next, true);
      for (int b = 0; b < 3; b++) {
        int more = (b + 1) % 3;
        x.allow(64 * a + 16 * b + 4 * a + b, true);
        x.allow(64 * a + 16 * b + 4 * (more == 0 ? next : a) + more, true);
      }
    }
    return x;
  }

  private static void termTall() {
    for (int w = 1; w <= 3; w++) {
      int rows = power(3, w);
      Counted once = counter(false);
      Counted round = counter(true);
      for (int h = 1; h <= 2 * rows + 1; h++) {
        due("tall(" + w + ", " + h + ") once", once.tall(w, h), h == rows ? 1 : 0);
        due("tall(" + w + ", " + h + ") round", round.tall(w, h), h % rows == 0 ? 1 : 0);
      }
      int high = 999999999 / rows * rows;
      due("tall(" + w + ", " + high + ")", round.tall(w, high), 1);
      due("tall(" + w + ", " + (high + 1) + ")", round.tall(w, high + 1), 0);
      // up to five rows they are the pictures of the desk's sizes
      Counted x = without(3, 21, 84, 27, 228, 9, 33, 250, 175, 19);
      for (int h = 1; h <= 5; h++) due("tall(" + w + ", " + h + ")", x.tall(w, h), x.many(h, w));
    }
    for (int w : new int[] {0, 4}) due("tall(" + w + ", 1)", without(2).tall(w, 1), OUTSIDE);
  }

  /** Columns of one cell: which colours may stand first, which below which (10 upper + lower), and which last. */
  private static Counted columns(int[] firsts, int[] pairs, int[] lasts) {
    Counted x = of(3);
    for (int v : firsts) {
      x.allow(252 + v, true);
      x.allow(243 + 4 * v, true);
    }
    for (int pair : pairs) {
      int upper = pair / 10;
      int lower = pair % 10;
      x.allow(192 + 16 * upper + 12 + lower, true);
      x.allow(64 * upper + 48 + 4 * lower + 3, true);
    }
    for (int v : lasts) {
      x.allow(207 + 16 * v, true);
      x.allow(63 + 64 * v, true);
    }
    return x;
  }

  private static void termLive() {
    for (int w = 1; w <= 3; w++) {
      due("live(" + w + ") of a counter", counter(false).live(w), power(3, w));
      due("live(" + w + ") of one that goes round", counter(true).live(w), power(3, w));
      due("live(" + w + ") of a new one", new Counted().live(w), 0);
    }
    due("live(1): 2 comes, but does not end", columns(cells(0), cells(1, 2), cells(1)).live(1), 2);
    due("live(1): 2 ends, but does not come", columns(cells(0), cells(1, 21), cells(1)).live(1), 2);
    due("live(1): 2 is by itself", columns(cells(0), cells(1, 22), cells(1)).live(1), 2);
    due("live(1): 2 in a third row", columns(cells(0), cells(1, 12), cells(2)).live(1), 3);
    due("live(1): nothing ends", columns(cells(0), cells(1, 12), cells()).live(1), 0);
    due("live(1): nothing begins", columns(cells(), cells(1, 12), cells(2)).live(1), 0);
    due("live(1): begins and ends apart", columns(cells(0), cells(11), cells(1)).live(1), 0);
    due("live(1): begins and ends at once", columns(cells(0), cells(11), cells(0, 1)).live(1), 1);
  }

  private static void termEndless() {
    for (int w = 1; w <= 3; w++) {
      due("endless(" + w + ") of a counter", counter(false).endless(w), 0);
      due("endless(" + w + ") of one that goes round", counter(true).endless(w), 1);
    }
    due("endless(1): a way round that does not end", columns(cells(0), cells(1, 2, 22), cells(1)).endless(1), 0);
    due("endless(1): a way round that does not come", columns(cells(0), cells(1, 21, 22), cells(1)).endless(1), 0);
    due("endless(1): at the beginning", columns(cells(0), cells(0, 1), cells(1)).endless(1), 1);
    due("endless(1): at the end", columns(cells(0), cells(1, 11), cells(1)).endless(1), 1);
    due("endless(1): in the middle", columns(cells(0), cells(1, 11, 12), cells(2)).endless(1), 1);
    due("endless(1): each second height", columns(cells(0), cells(1, 10), cells(1)).endless(1), 1);
    due("endless(1): one row", columns(cells(0), cells(), cells(0)).endless(1), 0);
  }

  private static void termStates() {
    Counted x = new Counted();
    due("count(4)", x.count(4), 1);
    due("act(0, 0, 0, 0)", x.act(0, 0, 0, 0), 1);
    due("act(1, 0, 0, 0)", x.act(1, 0, 0, 0), UNKNOWN);
    due("act(0, 0, 0, 1)", x.act(0, 0, 0, 1), UNKNOWN);
    due("walker(0)", x.walker(0), OUTSIDE);
    due("walker(1)", x.walker(1), 1);
    due("walker(6)", x.walker(6), OUTSIDE);
    due("walker(5)", x.walker(5), 1);
    due("act(4, 0, 0, 4)", x.act(4, 0, 0, 4), 1);
    due("act(5, 0, 0, 0)", x.act(5, 0, 0, 0), UNKNOWN);
    due("act(-1, 0, 0, 0)", x.act(-1, 0, 0, 0), UNKNOWN);
  }

  private static void ends(Counted x, String name, int how, int steps, int state) {
    due("walk(0), " + name, x.walk(0), how);
    due("walk(1), " + name, x.walk(1), steps);
    due("walk(2), " + name, x.walk(2), state);
  }

  private static void termActs() {
    // it is brought in each state before each sight; there, and only there, it takes
    for (int state = 1; state < 5; state++) {
      for (int sees = 0; sees < 4; sees++) {
        Counted x = of(3);
        x.walker(5);
        x.act(state, sees, 4, 0);
        for (int other = 1; other < 5; other++) {
          for (int sight = 0; sight < 4; sight++) {
            int first = sight == 0 ? 1 : 0;
            lay(x, 1, 2, first, sight % 3);
            x.act(0, first, sight == 3 ? 3 : 0, other);
            ends(x, "state " + other + " sees " + sight, other == state && sight == sees ? 1 : 0, 1, other);
          }
        }
      }
    }
    for (int sees = 0; sees < 3; sees++) {
      Counted x = of(3);
      x.act(0, sees, 4, 0);
      for (int sight = 0; sight < 3; sight++) ends(lay(x, 1, 1, sight), "state 0 sees " + sight, sight == sees ? 1 : 0, 0, 0);
    }
  }

  private static void termSteps() {
    int[] to = {5, 7, 3, 1};
    for (int act = 0; act < 4; act++) {
      Counted x = of(3);
      x.walker(4);
      // from the middle of three by three, to which it comes over cell 1
      x.act(0, 0, 0, 1);
      x.act(1, 0, 1, 2);
      x.act(1, 2, 1, 2);
      x.act(2, 0, act, 3);
      x.act(3, 2, 4, 0);
      for (int cell : to) {
        int[] p = new int[9];
        p[cell] = 2;
        ends(lay(x, 3, 3, p), "act " + act + " with 2 in cell " + cell, cell == to[act] ? 1 : 0, 3, 3);
      }
    }
    for (int then = 0; then < 5; then++) {
      Counted x = lay(new Counted(), 1, 2, 0, 1);
      x.walker(5);
      x.act(0, 0, 0, then);
      ends(x, "to state " + then, 0, 1, then);
    }
  }

  private static void termTakesLeaves() {
    Counted x = of(3);
    x.walker(5);
    for (int sees = 0; sees < 3; sees++) {
      lay(x, 1, 1, sees);
      ends(x, "at first", 0, 0, 0);
      x.act(0, sees, 4, 3);
      ends(x, "takes", 1, 0, 0);
      x.act(0, sees, 5, 3);
      ends(x, "leaves", 0, 0, 0);
    }
  }

  private static void termGoes() {
    Counted x = of(3);
    x.act(0, 1, 4, 0);
    int[] p = new int[25];
    p[0] = 1;
    ends(lay(x, 5, 5, p), "1 in cell 0", 1, 0, 0);
    Arrays.fill(p, 1);
    p[0] = 0;
    ends(lay(x, 5, 5, p), "1 in all others", 0, 0, 0);
    for (int h = 1; h <= 5; h++) for (int w = 1; w <= 5; w++) inRing(h, w);
  }

  /** One that takes a step, and then goes on in some direction, until it is out of the ring. */
  private static void inRing(int h, int w) {
    for (int first = 0; first < 4; first++) {
      for (int then = 0; then < 4; then++) {
        Counted x = lay(new Counted(), h, w, new int[h * w]);
        x.walker(2);
        x.act(0, 0, first, 1);
        x.act(1, 0, then, 1);
        x.act(1, 3, then, 1);
        int column = first == 0 ? 1 : first == 2 ? -1 : 0;
        int row = first == 1 ? 1 : first == 3 ? -1 : 0;
        int on = then == 0 ? w + 1 - column : then == 1 ? h + 1 - row : then == 2 ? column + 2 : row + 2;
        ends(x, h + " x " + w + ", " + first + " and then " + then, 0, 1 + on, 1);
      }
    }
  }

  private static void termStepOut() {
    for (int act = 0; act < 4; act++) {
      Counted x = lay(new Counted(), 1, 1, 0);
      x.walker(2);
      x.act(0, 0, act, 1);
      x.act(1, 3, 4, 0);
      ends(x, "in the ring it takes", 1, 1, 1);
      x.act(1, 3, act, 0);
      // a state that would take, if it came to see anything
      for (int sees = 1; sees < 4; sees++) x.act(0, sees, 4, 0);
      ends(x, "one step more is out", 0, 2, 1);
    }
  }

  private static void termAround() {
    Counted x = lay(new Counted(), 1, 2, 0, 0);
    x.walker(3);
    x.act(0, 0, 0, 1);
    x.act(1, 0, 2, 0);
    ends(x, "to where it began", 2, 2, 0);
    x.act(1, 0, 2, 2);
    ends(x, "to the same place in another state", 0, 2, 2);
    x.act(2, 0, 0, 1);
    ends(x, "to a later place", 2, 3, 1);
    x.act(2, 0, 0, 2);
    ends(x, "to a place where it was in another state", 0, 4, 2);
    x.act(2, 3, 2, 2);
    ends(x, "back from the ring", 2, 5, 2);
    // the ring is a place as any other
    x = lay(new Counted(), 1, 1, 0);
    x.act(0, 0, 3, 0);
    x.act(0, 3, 1, 0);
    ends(x, "to and fro", 2, 2, 0);
    for (int h = 2; h <= 5; h++) for (int w = 1; w <= 5; w++) fromSideToSide(h, w);
    longWalk();
  }

  /** In the same state to the ring at a row's end and to the ring before the next row: these are two places. */
  private static void fromSideToSide(int h, int w) {
    int[] p = new int[h * w];
    p[w] = 1;
    Counted x = lay(new Counted(), h, w, p);
    x.walker(2);
    x.act(0, 0, 0, 0);
    x.act(0, 3, 1, 1);
    x.act(1, 3, 2, 1);
    x.act(1, 0, 2, 1);
    x.act(1, 1, 2, 0);
    ends(x, "from side to side of " + h + " x " + w, 0, 2 * w + 4, 1);
  }

  /** As long a walk over five by five as could be found: never twice in the same state to the same place. */
  private static void longWalk() {
    int[] p = {0, 1, 0, 1, 0, 0, 1, 0, 1, 0, 0, 1, 0, 1, 0, 0, 1, 0, 1, 0, 0, 1, 0, 1, 0};
    int[][] acts = {{3, 3, 3, 1}, {2, 1, 0, 3}, {1, 3, 0, 1}, {3, 0, 0, 3}, {1, 1, 2, 0}};
    int[][] thens = {{0, 0, 2, 1}, {3, 1, 4, 2}, {4, 2, 3, 4}, {2, 3, 3, 0}, {1, 4, 4, 3}};
    Counted x = lay(new Counted(), 5, 5, p);
    x.walker(5);
    for (int state = 0; state < 5; state++) for (int sees = 0; sees < 4; sees++) x.act(state, sees, acts[state][sees], thens[state][sees]);
    ends(x, "a long way", 0, 175, 4);
  }

  private static int turned(int block, int turn) {
    int a = block >> 6;
    int b = block >> 4 & 3;
    int c = block >> 2 & 3;
    int d = block & 3;
    if (turn == 0) return 64 * c + 16 * a + 4 * d + b;
    if (turn == 1) return 64 * b + 16 * a + 4 * d + c;
    if (turn == 2) return 64 * c + 16 * d + 4 * a + b;
    return 64 * changed(a) + 16 * changed(b) + 4 * changed(c) + changed(d);
  }

  private static int changed(int part) { return part == 0 ? 1 : part == 1 ? 0 : part; }

  private static void termTurns() {
    int[] named = {141, 78, 177, 75};
    for (int turn = 0; turn < 4; turn++) due("turn " + turn + " of 0 1 / 2 3, in the model", turned(27, turn), named[turn]);
    for (int turn = 0; turn < 4; turn++) {
      for (int block = 0; block < 256; block++) {
        int next = turned(block, turn);
        Counted x = only(3, block);
        due("blocks(" + turn + ") of " + block, x.blocks(turn), next == block ? 0 : 1);
        x.allow(next, true);
        boolean back = turned(next, turn) == block;
        due("blocks(" + turn + ") of " + block + " and its turn", x.blocks(turn), back ? 0 : 1);
      }
    }
  }

  private static void termClosed() {
    for (int turn = 0; turn < 4; turn++) {
      due("blocks(" + turn + ") where nothing is allowed", new Counted().blocks(turn), 0);
      due("blocks(" + turn + ") where all is", without(3).blocks(turn), 0);
      due("blocks(" + turn + ") where all of two colours is", without(2).blocks(turn), 0);
    }
    Random random = new Random(16);
    for (int k = 0; k < 40; k++) {
      int[] blocks = someBlocks(random, 3, 60);
      boolean[] rule = ruleOnly(blocks);
      Counted x = only(3, blocks);
      for (int turn = 0; turn < 4; turn++) {
        int open = 0;
        for (int i = 0; i < 256; i++) if (rule[i] && !rule[turned(i, turn)]) open++;
        due("blocks(" + turn + ")", x.blocks(turn), open);
      }
    }
  }

  private static boolean[] ruleOnly(int... blocks) {
    boolean[] rule = new boolean[256];
    for (int block : blocks) rule[block] = true;
    return rule;
  }

  private static void termFirstRefusal() {
    refused("letter(3, 2): UNKNOWN before OUTSIDE", UNKNOWN, x -> x.letter(3, 2));
    refused("letter(-1, -1)", UNKNOWN, x -> x.letter(-1, -1));
    refused("act(5, 4, 6, 0)", UNKNOWN, x -> x.act(5, 4, 6, 0));
    refused("act(0, -1, -1, 5)", UNKNOWN, x -> x.act(0, -1, -1, 5));
    refused("act(-1, 0, 6, 0)", UNKNOWN, x -> x.act(-1, 0, 6, 0));
    refused("cell(25, 3)", UNKNOWN, x -> x.cell(25, 3));
    refused("walk(3): OUTSIDE before NOT", OUTSIDE, x -> x.walk(3));
    refused("walk(-1)", OUTSIDE, x -> x.walk(-1));
    refused("views(6, 5): OUTSIDE before NOT", OUTSIDE, x -> x.views(6, 5));
    refused("views(5, 6)", OUTSIDE, x -> x.views(5, 6));
    refused("walked(6, 5): OUTSIDE before NOT", OUTSIDE, x -> x.walked(6, 5));
    refused("walked(5, 6)", OUTSIDE, x -> x.walked(5, 6));
    // NOT before SPENT: gaps, or too many cells, where too many fit
    Maker gap = () -> gapped(lay(without(2), 3, 3, new int[9]), 8);
    refused(gap, "clues() with a gap, where 512 fit", NOT, x -> x.clues());
    Maker great = () -> lay(without(2), 3, 5, new int[15]);
    refused(great, "clues() of 15 cells, where more than 300 fit", NOT, x -> x.clues());
    Maker unfit = () -> lay(without(2, 0), 3, 4, new int[12]);
    refused(unfit, "clues() of one that does not fit, where more than 300 do", NOT, x -> x.clues());
    // a refusal before an answer of NONE
    due("picture(6, 1, 0, 0) of a new one", new Counted().picture(6, 1, 0, 0), OUTSIDE);
    due("picture(1, 1, 0, 1) of a new one", new Counted().picture(1, 1, 0, 1), OUTSIDE);
    due("look(1, 1, 2, 0) of a new one", new Counted().look(1, 1, 2, 0), OUTSIDE);
    due("ending(1) of a new one", new Counted().ending(1), UNKNOWN);
    due("sure(1) of a new one", new Counted().sure(1), UNKNOWN);
    due("rank() with a gap, where nothing fits", new Counted().rank(), NOT);
    due("lowest(4) of a new one", new Counted().lowest(4), OUTSIDE);
  }

  private static Counted gapped(Counted x, int... cells) {
    for (int cell : cells) x.cell(cell, -1);
    return x;
  }

  private static void asksChangeNothing() {
    for (Maker maker : MAKERS) {
      changesNothing(maker, "blocks(-1)", x -> x.blocks(-1));
      for (int turn = 0; turn < 4; turn++) {
        int t = turn;
        changesNothing(maker, "blocks", x -> x.blocks(t));
      }
      changesNothing(maker, "wrong", x -> x.wrong());
      changesNothing(maker, "many", x -> x.many(3, 4));
      changesNothing(maker, "picture", x -> x.picture(2, 3, 0, 5));
      changesNothing(maker, "rank", x -> x.rank());
      changesNothing(maker, "sizes", x -> x.sizes());
      changesNothing(maker, "endings", x -> x.endings());
      changesNothing(maker, "ending", x -> x.ending(0));
      changesNothing(maker, "sure", x -> x.sure(0));
      changesNothing(maker, "clues", x -> x.clues());
      changesNothing(maker, "looks", x -> x.looks(2, 3, 21));
      changesNothing(maker, "look", x -> x.look(2, 3, 21, 4));
      changesNothing(maker, "views", x -> x.views(3, 4));
      changesNothing(maker, "tall", x -> x.tall(3, 1000000000));
      changesNothing(maker, "live", x -> x.live(3));
      changesNothing(maker, "endless", x -> x.endless(2));
      changesNothing(maker, "lowest", x -> x.lowest(1));
      for (int what = 0; what < 5; what++) {
        int k = what;
        changesNothing(maker, "walk", x -> x.walk(k));
        changesNothing(maker, "count", x -> x.count(k));
      }
      changesNothing(maker, "walked", x -> x.walked(3, 3));
    }
  }

  /** What was asked for other sizes or of another rule does not come into later answers. */
  private static void asksAreForgotten() {
    for (int seed = 0; seed < 60; seed++) {
      Counted often = new Counted();
      Counted quiet = new Counted();
      for (Counted x : new Counted[] {often, quiet}) {
        Random random = new Random(seed);
        if (seed % 2 == 0) x.colours(3);
        for (int i = 0; i < 100; i++) x.allow(random.nextInt(256), true);
        if (x == often) askMuch(x);
        for (int i = 0; i < 30; i++) x.allow(random.nextInt(256), random.nextInt(3) == 0);
        lay(x, 1 + random.nextInt(5), 1 + random.nextInt(5), mixed(2, 25)).letter(0, 1);
        if (seed % 4 < 2) x.learn();
        x.walker(2);
        for (int sees = 0; sees < 4; sees++) x.act(0, sees, random.nextInt(5), 1);
        if (seed % 3 == 0) x.cell(0, -1);
      }
      List<Integer> got = askMuch(often);
      List<Integer> want = askMuch(quiet);
      for (int i = 0; i < want.size(); i++) due("ask " + i + " after others", got.get(i), want.get(i));
    }
  }

  private static List<Integer> askMuch(Counted x) {
    List<Integer> told = new ArrayList<>();
    for (int w = 3; w >= 1; w--) {
      told.add(x.live(w));
      told.add(x.endless(w));
      told.add(x.lowest(w));
      told.add(x.tall(w, 1));
      told.add(x.tall(w, 1000));
      told.add(x.views(4, w));
      told.add(x.walked(3, w));
      told.add(x.many(5, w));
      told.add(x.looks(w, 5, 31));
      told.add(x.look(2, w, 1, 1 - w / 3));
      told.add(x.picture(w, 4, 0, 3));
    }
    told.addAll(List.of(x.rank(), x.sizes(), x.endings(), x.ending(0), x.sure(0), x.clues(), x.wrong(), x.blocks(0), x.blocks(-1)));
    addWalk(told, x);
    return told;
  }

  // ---- rules, pictures

  private static void rulesAndPictures() {
    test(1, "Two COLOURS", BoundaryTests::newColours);
    test(1, "nothing ALLOWED", BoundaryTests::newRule);
    test(2, "So many COLOURS (2, 3)", BoundaryTests::coloursInside);
    test(2, "all else as at first", BoundaryTests::coloursBeginAnew);
    test(2, "how many there were", BoundaryTests::coloursBefore);
    test(2, "OUTSIDE", () -> allRefused("colours", OUTSIDE, 2, 3, c -> x -> x.colours(c)));
    test(3, "A block (0 .. 255) is ALLOWED, or not", BoundaryTests::allowInside);
    test(3, "whether it was (1, 0)", BoundaryTests::allowBefore);
    test(3, "OUTSIDE: also one with a COLOUR that there is not", BoundaryTests::allowOutside);
    test(4, "THE DESK gets a PICTURE of h ROWS and w columns", BoundaryTests::deskInside);
    test(4, "all GAPS: 1", BoundaryTests::deskGaps);
    test(4, "OUTSIDE", () -> sizesRefused("desk", (x, h, w) -> x.desk(h, w)));
    test(5, "A CELL of THE DESK becomes a COLOUR, or a GAP (-1)", BoundaryTests::cellInside);
    test(5, "that which it was (-1)", BoundaryTests::cellBefore);
    test(5, "UNKNOWN: CELL, COLOUR", BoundaryTests::cellUnknown);
    test(6, "THE DESK's PICTURE becomes that which its CELLS tell from a row: CELL i row >> 2 i & 3: 1", BoundaryTests::paintInside);
    test(6, "OUTSIDE: a COLOUR that there is not", BoundaryTests::paintOutside);
    test(6, "bits beyond its CELLS do not matter", BoundaryTests::paintBeyond);
    test(7, "Blocks of THE DESK's PICTURE become ALLOWED: how many were not", BoundaryTests::learnInside);
    test(7, "NOT: it has GAPS", () -> gapsRefused("learn()", x -> x.learn()));
    test(8, "The least WINDOW of THE DESK's PICTURE whose block is not ALLOWED", BoundaryTests::wrongLeast);
    test(8, "NONE: it FITS", BoundaryTests::wrongNone);
    test(8, "NOT: it has GAPS", () -> gapsRefused("wrong()", x -> x.wrong()));
    test(9, "How many blocks are ALLOWED (turn -1)", BoundaryTests::blocksAllowed);
    test(9, "or how many of these have a TURN (0 .. 3) that is not", BoundaryTests::blocksTurned);
    test(9, "OUTSIDE", () -> allRefused("blocks", OUTSIDE, -1, 3, turn -> x -> x.blocks(turn)));
    test(10, "THE RULE is CLOSED under a TURN by as many blocks as need to be ALLOWED: how many came", BoundaryTests::closeInside);
    test(10, "OUTSIDE", () -> allRefused("close", OUTSIDE, 0, 3, turn -> x -> x.close(turn)));
  }

  private static void newColours() {
    Counted x = new Counted();
    due("count(0)", x.count(0), 2);
    due("letter(1, 1)", x.letter(1, 1), 1);
    due("letter(2, 0)", x.letter(2, 0), UNKNOWN);
    due("allow(2, true)", x.allow(2, true), OUTSIDE);
    due("paint(2)", x.paint(2), OUTSIDE);
  }

  private static void newRule() {
    due("blocks(-1)", new Counted().blocks(-1), 0);
    List<Integer> told = ruleTold(new Counted());
    for (int block = 0; block < 256; block++) due("allow(" + block + ", false)", told.get(block), isBlock(2, block) ? 0 : OUTSIDE);
    // and nothing of another object
    Counted first = busy(3);
    due("blocks(-1) of a second one", new Counted().blocks(-1), 0);
    due("blocks(-1) of the first", first.blocks(-1) > 0 ? 1 : 0, 1);
  }

  private static void coloursInside() {
    for (Maker maker : MAKERS) {
      for (int c = 2; c <= 3; c++) {
        Counted x = maker.make();
        x.colours(c);
        due("count(0)", x.count(0), c);
        due("cell(0, " + (c - 1) + ")", x.cell(0, c - 1), NONE);
        due("cell(0, " + c + ")", x.cell(0, c), UNKNOWN);
      }
    }
  }

  private static void coloursBeginAnew() {
    for (Maker maker : MAKERS) {
      for (int c = 2; c <= 3; c++) {
        Counted x = maker.make();
        x.colours(c);
        due("the rule is as at first", ruleTold(x).equals(ruleTold(of(c))) ? 1 : 0, 1);
        x = maker.make();
        x.colours(c);
        due("desk, letters and walker are as at first", restTold(x).equals(restTold(of(c))) ? 1 : 0, 1);
      }
    }
    // what was told of a sight or colour that there is no more does not come again
    Counted x = busy(3);
    x.colours(2);
    x.colours(3);
    due("desk, letters and walker are as at first", restTold(x).equals(restTold(of(3))) ? 1 : 0, 1);
  }

  private static void coloursBefore() {
    Counted x = new Counted();
    int[] to = {2, 3, 3, 2, 2, 3};
    int before = 2;
    for (int c : to) {
      due("colours(" + c + ")", x.colours(c), before);
      due("colours(1)", x.colours(1), OUTSIDE);
      due("colours(4)", x.colours(4), OUTSIDE);
      before = c;
    }
  }

  private static void allowInside() {
    for (int c = 2; c <= 3; c++) {
      for (int block : new int[] {0, 1, 85, 243, 252, 254, 255}) {
        if (!isBlock(c, block)) continue;
        Counted x = of(c);
        due("allow(" + block + ", true)", x.allow(block, true), 0);
        due("blocks(-1)", x.blocks(-1), 1);
        due("allow(" + block + ", false)", x.allow(block, false), 1);
        due("blocks(-1)", x.blocks(-1), 0);
      }
      due("blocks(-1) of all", without(c).blocks(-1), c == 2 ? 81 : 256);
    }
    due("allow(-1, true)", of(3).allow(-1, true), OUTSIDE);
    due("allow(256, true)", of(3).allow(256, true), OUTSIDE);
  }

  private static void allowBefore() {
    for (int block : new int[] {0, 255}) {
      Counted x = new Counted();
      boolean[] to = {false, true, true, false, false, true};
      int[] want = {0, 0, 1, 1, 0, 0};
      for (int i = 0; i < to.length; i++) due("allow(" + block + ", " + to[i] + ")", x.allow(block, to[i]), want[i]);
    }
    // one block does not touch another
    Counted x = only(3, 0, 16, 255);
    x.allow(1, true);
    x.allow(16, false);
    for (int block = 0; block < 256; block++) {
      due("allow(" + block + ", true)", x.allow(block, true), block == 0 || block == 1 || block == 255 ? 1 : 0);
    }
  }

  private static void allowOutside() {
    allRefused("allow(.., true)", OUTSIDE, 0, 255, block -> x -> x.allow(block, true));
    allRefused("allow(.., false)", OUTSIDE, 0, 255, block -> x -> x.allow(block, false));
    for (int block = 0; block < 256; block++) {
      int b = block;
      if (isBlock(2, block)) {
        due("allow(" + block + ", true)", new Counted().allow(block, true), 0);
      } else {
        for (int i = 0; i < 3; i++) refused(MAKERS[i], "allow(" + block + ", true)", OUTSIDE, x -> x.allow(b, true));
        refused(MAKERS[1], "allow(" + block + ", false)", OUTSIDE, x -> x.allow(b, false));
        due("allow(" + block + ", true) of three", of(3).allow(block, true), 0);
      }
    }
  }

  private static void deskInside() {
    for (int h = 1; h <= 5; h++) {
      for (int w = 1; w <= 5; w++) {
        Counted x = new Counted();
        due("desk(" + h + ", " + w + ")", x.desk(h, w), 1);
        due("count(1)", x.count(1), h);
        due("count(2)", x.count(2), w);
        due("the last cell", x.cell(h * w - 1, 0), NONE);
        due("one cell more", x.cell(h * w, 0), UNKNOWN);
      }
    }
  }

  private static void deskGaps() {
    for (int[] size : new int[][] {{1, 1}, {1, 5}, {5, 1}, {5, 5}, {2, 3}}) {
      for (Maker maker : MAKERS) {
        Counted x = maker.make();
        due("desk", x.desk(size[0], size[1]), 1);
        due("count(3)", x.count(3), size[0] * size[1]);
        for (int i = 0; i < size[0] * size[1]; i++) due("cell(" + i + ", -1)", x.cell(i, -1), NONE);
        // the same size again wipes, too
        x.paint(0);
        due("count(3)", x.count(3), 0);
        x.desk(size[0], size[1]);
        due("count(3)", x.count(3), size[0] * size[1]);
      }
    }
    // what was painted on a greater desk does not come again
    Counted x = lay(new Counted(), 5, 5, mixed(2, 25));
    x.desk(1, 1);
    x.desk(5, 5);
    due("count(3)", x.count(3), 25);
    // all else stays
    for (Maker maker : MAKERS) {
      x = maker.make();
      x.desk(4, 4);
      due("the rule stays", ruleTold(x).equals(ruleTold(maker.make())) ? 1 : 0, 1);
    }
  }

  private static void cellInside() {
    for (int c = 2; c <= 3; c++) {
      for (int[] size : new int[][] {{1, 1}, {1, 5}, {5, 1}, {5, 5}}) {
        Counted x = of(c);
        x.desk(size[0], size[1]);
        int last = size[0] * size[1] - 1;
        for (int cell : new int[] {0, last}) {
          for (int colour = -1; colour < c; colour++) {
            x.cell(cell, colour);
            due("count(3)", x.count(3), colour == -1 ? last + 1 : last);
            due("cell(" + cell + ", -1)", x.cell(cell, -1), colour);
          }
        }
      }
    }
  }

  private static void cellBefore() {
    Counted x = of(3);
    x.desk(5, 5);
    int[] to = {-1, 0, 0, 2, 1, -1, -1, 1};
    for (int cell : new int[] {0, 12, 24}) {
      int before = -1;
      for (int colour : to) {
        due("cell(" + cell + ", " + colour + ")", x.cell(cell, colour), before);
        before = colour;
      }
    }
    due("count(3): the others are gaps still", x.count(3), 22);
  }

  private static void cellUnknown() {
    for (int i = 0; i < MAKERS.length; i++) {
      Maker maker = MAKERS[i];
      int size = i == 0 ? 1 : 6;
      int c = i < 3 ? 2 : 3;
      for (int cell : outside(0, size - 1)) {
        refused(maker, "cell(" + cell + ", 0)", UNKNOWN, x -> x.cell(cell, 0));
        refused(maker, "cell(" + cell + ", -1)", UNKNOWN, x -> x.cell(cell, -1));
        refused(maker, "cell(" + cell + ", " + c + ")", UNKNOWN, x -> x.cell(cell, c));
      }
      for (int colour : outside(-1, c - 1)) {
        refused(maker, "cell(0, " + colour + ")", UNKNOWN, x -> x.cell(0, colour));
        refused(maker, "cell(" + (size - 1) + ", " + colour + ")", UNKNOWN, x -> x.cell(size - 1, colour));
      }
    }
  }

  private static void paintInside() {
    for (int c = 2; c <= 3; c++) {
      for (int h = 1; h <= 5; h++) {
        for (int w = 1; w <= 5; w++) {
          Counted x = of(c);
          x.desk(h, w);
          int[] p = mixed(c, h * w);
          p[h * w - 1] = c - 1;
          due("paint", x.paint(rowOf(p)), 1);
          due("count(3)", x.count(3), 0);
          for (int i = 0; i < h * w; i++) due("cell(" + i + ", 0)", x.cell(i, 0), p[i]);
        }
      }
    }
  }

  private static void paintOutside() {
    for (int i = 0; i < MAKERS.length; i++) {
      for (int cell = 0; cell < (i == 0 ? 1 : 6); cell++) {
        long border = 3L << 2 * cell;
        refused(MAKERS[i], "paint: the border in cell " + cell, OUTSIDE, x -> x.paint(border));
        refused(MAKERS[i], "paint: the border in cell " + cell + ", bits beyond", OUTSIDE, x -> x.paint(border | -1L << 12));
        long two = 2L << 2 * cell;
        if (i < 3) refused(MAKERS[i], "paint: 2 in cell " + cell, OUTSIDE, x -> x.paint(two));
        else due("paint: 2 in cell " + cell, MAKERS[i].make().paint(two), 1);
      }
      refused(MAKERS[i], "paint(-1)", OUTSIDE, x -> x.paint(-1L));
      refused(MAKERS[i], "paint of the greatest number", OUTSIDE, x -> x.paint(Long.MAX_VALUE));
      due("paint of the least number", MAKERS[i].make().paint(Long.MIN_VALUE), 1);
    }
    Maker great = () -> lay(of(3), 5, 5, mixed(3, 25));
    refused(great, "paint: the border in cell 24", OUTSIDE, x -> x.paint(3L << 48));
    due("paint: 2 in cell 24", great.make().paint(2L << 48), 1);
  }

  private static void paintBeyond() {
    for (int h = 1; h <= 5; h++) {
      for (int w = 1; w <= 5; w++) {
        int size = h * w;
        for (long beyond : new long[] {-1L << 2 * size, 1L << 2 * size, 3L << 2 * size, 2L << 2 * size, Long.MIN_VALUE}) {
          Counted x = new Counted();
          x.desk(h, w);
          int[] p = mixed(2, size);
          due("paint with bits beyond", x.paint(rowOf(p) | beyond), 1);
          for (int i = 0; i < size; i++) due("cell(" + i + ", 0)", x.cell(i, 0), p[i]);
          due("one cell more", x.cell(size, 0), UNKNOWN);
        }
        // the last bits that do matter
        Counted x = new Counted();
        x.desk(h, w);
        due("paint with 2 in the last cell", x.paint(2L << 2 * size - 2), OUTSIDE);
        due("count(3)", x.count(3), size);
      }
    }
  }

  private static void learnInside() {
    Counted x = new Counted();
    x.cell(0, 0);
    due("learn() of one cell", x.learn(), 4);
    due("learn() again", x.learn(), 0);
    x.allow(252, false);
    due("learn() of one block", x.learn(), 1);
    due("learn() again", x.learn(), 0);
    x = lay(new Counted(), 5, 5, new int[25]);
    due("learn(): equal blocks count once", x.learn(), 9);
    // the border and the corners are learned once for all
    for (int side = 4; side >= 2; side--) {
      lay(x, side, side, new int[side * side]);
      due("learn() of " + side + " x " + side, x.learn(), 0);
    }
    Random random = new Random(17);
    for (int k = 0; k < 60; k++) {
      int c = 2 + random.nextInt(2);
      int h = 1 + random.nextInt(5);
      int w = 1 + random.nextInt(5);
      x = of(c);
      boolean[] rule = new boolean[256];
      for (int i = 0; i < 3; i++) {
        int[] p = new int[h * w];
        for (int cell = 0; cell < h * w; cell++) p[cell] = random.nextInt(c);
        int came = 0;
        for (int window = 0; window < (h + 1) * (w + 1); window++) {
          if (!rule[block(p, h, w, window)]) came++;
          rule[block(p, h, w, window)] = true;
        }
        due("learn()", lay(x, h, w, p).learn(), came);
      }
      int size = 0;
      for (boolean is : rule) if (is) size++;
      due("blocks(-1)", x.blocks(-1), size);
    }
  }

  /** One gap is enough, in any cell; without gaps it is answered. */
  private static void gapsRefused(String name, Call call) {
    for (int gap = 0; gap < 6; gap++) {
      int g = gap;
      refused(() -> busy(2, g), name + " with a gap in cell " + gap, NOT, call);
    }
    refused(() -> busy(3, 0, 1, 2, 3, 4, 5), name + " with gaps alone", NOT, call);
    refused(() -> new Counted(), name + " of a new one", NOT, call);
    refused(() -> gapped(lay(of(3), 5, 5, mixed(3, 25)), 24), name + " with a gap in cell 24", NOT, call);
    due(name + " is answered without gaps", call.on(busy(2)) == NOT ? 1 : 0, 0);
    due(name + " is answered where the gap is filled", call.on(filled()) == NOT ? 1 : 0, 0);
  }

  private static Counted filled() {
    Counted x = busy(2, 3);
    x.cell(3, 1);
    return x;
  }

  private static void wrongLeast() {
    for (int h = 1; h <= 5; h++) {
      for (int w = 1; w <= 5; w++) {
        int[] p = mixed(3, h * w);
        Counted x = lay(of(3), h, w, p);
        due("wrong() where nothing is allowed", x.wrong(), 0);
        // window after window becomes right
        boolean[] rule = new boolean[256];
        for (int i = 0; i < (h + 1) * (w + 1); i++) {
          x.allow(block(p, h, w, i), true);
          rule[block(p, h, w, i)] = true;
          int least = 0;
          while (least < (h + 1) * (w + 1) && rule[block(p, h, w, least)]) least++;
          due("wrong() when window " + i + " is right", x.wrong(), least == (h + 1) * (w + 1) ? NONE : least);
        }
      }
    }
    // two are wrong
    Counted x = lay(only(3, NINE), 2, 2, 0, 1, 2, 0);
    x.allow(NINE[8], false);
    due("wrong()", x.wrong(), 8);
    x.allow(NINE[4], false);
    due("wrong()", x.wrong(), 4);
    x.allow(NINE[0], false);
    due("wrong()", x.wrong(), 0);
  }

  private static void wrongNone() {
    for (int h = 1; h <= 5; h++) for (int w = 1; w <= 5; w++) due("wrong()", learned(3, h, w, mixed(3, h * w)).wrong(), NONE);
    due("wrong() where all is allowed", lay(without(2), 5, 5, mixed(2, 25)).wrong(), NONE);
    // a block of which no window has the like does not matter
    Counted x = lay(only(3, NINE), 2, 2, 0, 1, 2, 0);
    x.allow(255, true);
    x.allow(255, false);
    due("wrong()", x.wrong(), NONE);
  }

  private static void blocksAllowed() {
    due("blocks(-1) of none", new Counted().blocks(-1), 0);
    due("blocks(-1) of all of two", without(2).blocks(-1), 81);
    due("blocks(-1) of all of three", without(3).blocks(-1), 256);
    due("blocks(-1) of all but the first and last", without(3, 0, 255).blocks(-1), 254);
    Counted x = new Counted();
    x.allow(0, true);
    due("blocks(-1)", x.blocks(-1), 1);
    x.allow(255, true);
    due("blocks(-1)", x.blocks(-1), 2);
    due("blocks(-2)", x.blocks(-2), OUTSIDE);
  }

  private static void blocksTurned() {
    // 0 1 / 2 3, whose turns are all unlike, and then all four turns of it
    Counted x = only(3, 27);
    for (int turn = 0; turn < 4; turn++) due("blocks(" + turn + ")", x.blocks(turn), 1);
    due("blocks(4)", x.blocks(4), OUTSIDE);
    int block = 27;
    for (int i = 1; i < 4; i++) {
      block = turned(block, 0);
      x.allow(block, true);
      due("blocks(0) of " + (i + 1) + " turns", x.blocks(0), i == 3 ? 0 : 1);
    }
    // four turns come back to the first, two of the others do
    due("the fourth turn", turned(block, 0), 27);
    due("blocks(0) of the first and third", only(3, 27, turned(turned(27, 0), 0)).blocks(0), 2);
    for (int turn = 1; turn < 4; turn++) due("blocks(" + turn + ") of two", only(3, 27, turned(27, turn)).blocks(turn), 0);
    // each counts by itself
    due("blocks(3)", only(2, 0, 1, 16, 85, 4, 81, 255).blocks(3), 2);
  }

  private static void closeInside() {
    Random random = new Random(18);
    for (int turn = 0; turn < 4; turn++) {
      due("close(" + turn + ") of none", new Counted().close(turn), 0);
      due("close(" + turn + ") of all", without(3).close(turn), 0);
      due("close(" + turn + ") of all of two", without(2).close(turn), 0);
      for (int k = 0; k < 30; k++) {
        int[] blocks = k == 0 ? new int[] {27} : someBlocks(random, 3, 40);
        boolean[] rule = ruleOnly(blocks);
        int came = closed(rule, turn);
        Counted x = only(3, blocks);
        due("close(" + turn + ")", x.close(turn), came);
        due("close(" + turn + ") again", x.close(turn), 0);
        due("blocks(" + turn + ")", x.blocks(turn), 0);
        for (int i = 0; i < 256; i++) due("allow(" + i + ", true)", x.allow(i, true), rule[i] ? 1 : 0);
      }
    }
    // blocks of two colours stay blocks of two
    Counted x = only(2, 27 & ~8, 1);
    for (int turn = 0; turn < 4; turn++) x.close(turn);
    x.desk(5, 5);
    for (int block = 0; block < 256; block++) if (isBlock(2, block)) x.allow(block, false);
    due("blocks(-1)", x.blocks(-1), 0);
  }

  /** Closes a rule, one block after another: how many came. */
  private static int closed(boolean[] rule, int turn) {
    int came = 0;
    for (int round = 0; round < 4; round++) {
      for (int i = 0; i < 256; i++) {
        if (rule[i] && !rule[turned(i, turn)]) {
          rule[turned(i, turn)] = true;
          came++;
        }
      }
    }
    return came;
  }

  // ---- counts

  private static void counts() {
    test(11, "How many PICTURES of a size FIT (MANY)", BoundaryTests::manyInside);
    test(11, "OUTSIDE", () -> sizesRefused("many", (x, h, w) -> x.many(h, w)));
    test(12, "The COLOUR of a CELL in PICTURE i (0 .. 999999999) of those", BoundaryTests::pictureInside);
    test(12, "NONE: there is no such", BoundaryTests::pictureNone);
    test(12, "OUTSIDE: also a CELL that there is not", BoundaryTests::pictureOutside);
    test(13, "Which of those of its size THE DESK's PICTURE is (MANY: not below 1000000001)", BoundaryTests::rankInside);
    test(13, "NONE: it does not FIT", BoundaryTests::rankNone);
    test(13, "NOT: it has GAPS", () -> gapsRefused("rank()", x -> x.rank()));
    test(14, "Sizes of which some PICTURE FITS: bit 5 (h - 1) + w - 1", BoundaryTests::sizesInside);
  }

  private static void manyInside() {
    Counted two = without(2);
    Counted three = without(3);
    Counted none = new Counted();
    for (int h = 1; h <= 5; h++) {
      for (int w = 1; w <= 5; w++) {
        due("many(" + h + ", " + w + ") of two", two.many(h, w), power(2, h * w));
        due("many(" + h + ", " + w + ") of three", three.many(h, w), h * w > 18 ? MANY : power(3, h * w));
        due("many(" + h + ", " + w + ") of none", none.many(h, w), 0);
        due("many(" + h + ", " + w + ") of one", learned(2, h, w, new int[h * w]).many(h, w), 1);
      }
    }
    for (int i = 0; i < 4; i++) {
      long size = FIRST_EDGE + i;
      due("many(5, 5) of " + size, without(3, EDGES[i]).many(5, 5), size > 1000000000L ? MANY : size);
    }
    Random random = new Random(19);
    for (int k = 0; k < 60; k++) {
      int c = 2 + random.nextInt(2);
      int h = 1 + random.nextInt(3);
      int w = 1 + random.nextInt(c == 2 ? 4 : 3);
      int[] not = someBlocks(random, c, c == 2 ? 40 : 120);
      due("many(" + h + ", " + w + ")", without(c, not).many(h, w), fitting(ruleWithout(not), c, h, w).size());
    }
  }

  private static void pictureInside() {
    // all fit: the cells are the digits of the place
    Counted x = without(3);
    for (int place : new int[] {0, 1, 999999998, 999999999}) {
      int[] p = any(3, 25, place);
      for (int cell = 0; cell < 25; cell++) due("picture(5, 5, " + place + ", " + cell + ")", x.picture(5, 5, place, cell), p[cell]);
    }
    due("picture(5, 5, -1, 0)", x.picture(5, 5, -1, 0), OUTSIDE);
    due("picture(5, 5, 1000000000, 0)", x.picture(5, 5, 1000000000, 0), OUTSIDE);
    // the greatest number, where it is the last picture, and where one or two come after it
    for (int i = 1; i < 4; i++) {
      x = without(3, EDGES[i]);
      Rows all = edge(i);
      for (int place : new int[] {0, 999999999}) {
        int[] p = all.picture(5, place);
        for (int cell = 0; cell < 25; cell++) due("picture(5, 5, " + place + ", " + cell + ")", x.picture(5, 5, place, cell), p[cell]);
      }
    }
  }

  private static void pictureNone() {
    Counted x = without(3, ONE_BELOW);
    int[] last = edge(0).picture(5, 999999998);
    for (int cell = 0; cell < 25; cell++) {
      due("picture(5, 5, 999999998, " + cell + ")", x.picture(5, 5, 999999998, cell), last[cell]);
      due("picture(5, 5, 999999999, " + cell + ")", x.picture(5, 5, 999999999, cell), NONE);
    }
    for (int c = 2; c <= 3; c++) {
      x = without(c);
      for (int size = 1; size <= 5; size++) {
        int all = power(c, size);
        due("picture(1, " + size + ", the last, 0)", x.picture(1, size, all - 1, 0), c - 1);
        due("picture(1, " + size + ", one more, 0)", x.picture(1, size, all, 0), NONE);
        due("picture(" + size + ", 1, the last, 0)", x.picture(size, 1, all - 1, 0), c - 1);
        due("picture(" + size + ", 1, one more, 0)", x.picture(size, 1, all, 0), NONE);
      }
    }
    due("picture(1, 1, 0, 0) of a new one", new Counted().picture(1, 1, 0, 0), NONE);
    due("picture(5, 5, 999999999, 24) of a new one", new Counted().picture(5, 5, 999999999, 24), NONE);
    due("picture(2, 2, 0, 0) of one", learned(2, 2, 2, cells(1, 0, 0, 1)).picture(2, 2, 0, 0), 1);
    due("picture(2, 2, 1, 0) of one", learned(2, 2, 2, cells(1, 0, 0, 1)).picture(2, 2, 1, 0), NONE);
  }

  private static void pictureOutside() {
    sizesRefused("picture", (x, h, w) -> x.picture(h, w, 0, 0));
    allRefused("picture: i", OUTSIDE, 0, 999999999, i -> x -> x.picture(1, 1, i, 0));
    allRefused("picture: i, where no picture fits", OUTSIDE, 0, 999999999, i -> x -> x.picture(5, 4, i, 19));
    for (int[] size : new int[][] {{1, 1}, {1, 5}, {5, 1}, {2, 3}, {5, 5}}) {
      int h = size[0];
      int w = size[1];
      allRefused("picture of " + h + " x " + w + ": cell", OUTSIDE, 0, h * w - 1, cell -> x -> x.picture(h, w, 0, cell));
      Counted x = without(2);
      due("the last cell", x.picture(h, w, power(2, h * w) - 1, h * w - 1), 1);
      due("one cell more", x.picture(h, w, 0, h * w), OUTSIDE);
    }
    // its own size decides, not the desk's
    due("picture(2, 2, 0, 3) beside a desk of one cell", without(2).picture(2, 2, 0, 3), 0);
    due("picture(1, 1, 0, 1) beside a greater desk", lay(without(2), 5, 5, new int[25]).picture(1, 1, 0, 1), OUTSIDE);
  }

  private static void rankInside() {
    Counted x = without(3);
    long[] places = {0, 1, 999999999L, 1000000000L, 1000000001L, 1000000002L, 4294967296L, 5294967296L, 847288609442L};
    for (long place : places) {
      due("rank() of " + place, lay(x, 5, 5, any(3, 25, place)).rank(), place > 1000000000L ? MANY : place);
    }
    for (int i = 0; i < 4; i++) {
      long last = FIRST_EDGE + i - 1;
      x = without(3, EDGES[i]);
      Rows all = edge(i);
      for (long place : new long[] {0, 1, last - 1, last}) {
        due("rank() of " + place, lay(x, 5, 5, all.picture(5, place)).rank(), place > 1000000000L ? MANY : place);
      }
    }
    Random random = new Random(20);
    for (int k = 0; k < 40; k++) {
      int[] not = someBlocks(random, 2, 30);
      int h = 1 + random.nextInt(3);
      int w = 1 + random.nextInt(3);
      List<int[]> all = fitting(ruleWithout(not), 2, h, w);
      x = without(2, not);
      for (int i = 0; i < all.size() && i < 100; i++) due("rank() of " + i, lay(x, h, w, all.get(i)).rank(), i);
    }
  }

  private static void rankNone() {
    due("rank() where nothing is allowed", lay(new Counted(), 1, 1, 0).rank(), NONE);
    Counted x = lay(only(3, NINE), 2, 2, 0, 1, 2, 0);
    due("rank()", x.rank(), 0);
    for (int cell = 0; cell < 4; cell++) {
      int own = x.cell(cell, 1);
      x.cell(cell, own == 0 ? 2 : 0);
      due("rank() with another colour in cell " + cell, x.rank(), NONE);
      x.cell(cell, own);
    }
    due("rank()", x.rank(), 0);
    // though pictures before it and after it fit
    x = without(2, 240);
    due("rank() of 0 0", lay(x, 1, 2, 0, 0).rank(), NONE);
    due("rank() of 0 1", lay(x, 1, 2, 0, 1).rank(), 0);
    due("rank() of 1 1", lay(x, 1, 2, 1, 1).rank(), 2);
  }

  private static void sizesInside() {
    due("sizes() of a new one", new Counted().sizes(), 0);
    due("sizes() of all", without(2).sizes(), 33554431);
    due("sizes() of all of three", without(3).sizes(), 33554431);
    // a counter has three, nine or twenty-seven rows: of these sizes one only
    due("sizes() of a counter", counter(true).sizes(), 1 << 10);
    // of one size alone: a row and a column begin with 0, end with their last colour, and grow on the way
    for (int h = 1; h <= 3; h++) {
      for (int w = 1; w <= 3; w++) {
        if (h + w > 4) continue;
        int[] p = new int[h * w];
        for (int i = 0; i < h * w; i++) p[i] = i / w + i % w;
        due("sizes() of " + h + " x " + w, learned(3, h, w, p).sizes(), 1 << 5 * (h - 1) + w - 1);
      }
    }
    Random random = new Random(21);
    for (int k = 0; k < 75; k++) {
      int c = 2 + k % 2;
      int h = 1 + k % 5;
      int w = 1 + k / 5 % 5;
      int[] p = new int[h * w];
      for (int i = 0; i < h * w; i++) p[i] = random.nextInt(c);
      boolean[] rule = new boolean[256];
      for (int i = 0; i < (h + 1) * (w + 1); i++) rule[block(p, h, w, i)] = true;
      int want = 0;
      for (int columns = 1; columns <= 5; columns++) {
        Rows all = new Rows(rule, c, columns);
        for (int high = 1; high <= 5; high++) if (all.size(high) > 0) want |= 1 << 5 * (high - 1) + columns - 1;
      }
      due("sizes() of what was learned from " + h + " x " + w, learned(c, h, w, p).sizes(), want);
      due("its own size is in it", want >> 5 * (h - 1) + w - 1 & 1, 1);
    }
  }

  // ---- gaps

  private static void gaps() {
    test(15, "How many ENDINGS (MANY)", BoundaryTests::endingsInside);
    test(16, "The COLOUR of a CELL in the first ENDING", BoundaryTests::endingInside);
    test(16, "NONE: there is none", BoundaryTests::endingNone);
    test(16, "UNKNOWN", () -> cellsUnknown("ending", (x, cell) -> x.ending(cell)));
    test(17, "The COLOUR that is SURE of a CELL", BoundaryTests::sureInside);
    test(17, "NONE", BoundaryTests::sureNone);
    test(17, "UNKNOWN", () -> cellsUnknown("sure", (x, cell) -> x.sure(cell)));
    test(18, "CLUES, by bits", BoundaryTests::cluesInside);
    test(18, "NOT: GAPS", () -> gapsRefused("clues()", x -> x.clues()));
    test(18, "it does not FIT", BoundaryTests::cluesUnfit);
    test(18, "or it has more than 12 CELLS", BoundaryTests::cluesCells);
    test(18, "SPENT: more than 300 PICTURES of its size FIT", BoundaryTests::cluesSpent);
  }

  private interface CellCall { int on(Counted x, int cell); }

  /** Cells that the desk does not have, of all its sizes. */
  private static void cellsUnknown(String name, CellCall call) {
    for (int i = 0; i < MAKERS.length; i++) {
      int size = i == 0 ? 1 : 6;
      for (int cell : outside(0, size - 1)) refused(MAKERS[i], name + "(" + cell + ")", UNKNOWN, x -> call.on(x, cell));
    }
    for (int h = 1; h <= 5; h++) {
      for (int w = 1; w <= 5; w++) {
        Counted x = lay(without(2), h, w, new int[h * w]);
        due(name + " of the last cell", call.on(x, h * w - 1), 0);
        due(name + " of one cell more", call.on(x, h * w), UNKNOWN);
        due(name + " of no cell", call.on(x, -1), UNKNOWN);
      }
    }
  }

  private static void endingsInside() {
    for (int i = 0; i < 4; i++) {
      long size = FIRST_EDGE + i;
      Counted x = without(3, EDGES[i]);
      x.desk(5, 5);
      due("endings() of " + size, x.endings(), size > 1000000000L ? MANY : size);
    }
    Counted x = without(3);
    for (int h = 1; h <= 5; h++) {
      for (int w = 1; w <= 5; w++) {
        x.desk(h, w);
        due("endings() of " + h * w + " gaps", x.endings(), h * w > 18 ? MANY : power(3, h * w));
      }
    }
    // no gap: one, or none
    due("endings() of a picture", lay(x, 5, 5, mixed(3, 25)).endings(), 1);
    x.cell(24, -1);
    due("endings() with one gap", x.endings(), 3);
    x.allow(63, false);
    due("endings() with one gap, not 0", x.endings(), 2);
    x.allow(127, false);
    x.allow(191, false);
    due("endings() of none", x.endings(), 0);
    due("endings() of a new one", new Counted().endings(), 0);
  }

  private static void endingInside() {
    Counted x = without(3);
    x.desk(5, 5);
    for (int cell : new int[] {0, 12, 24}) due("ending(" + cell + ") of gaps alone", x.ending(cell), 0);
    x.cell(24, 2);
    x.cell(0, 1);
    due("ending(24)", x.ending(24), 2);
    due("ending(0)", x.ending(0), 1);
    due("ending(23)", x.ending(23), 0);
    // no gap: its own cells
    int[] p = mixed(3, 25);
    lay(x, 5, 5, p);
    for (int cell = 0; cell < 25; cell++) due("ending(" + cell + ") without gaps", x.ending(cell), p[cell]);
    // the first of the rule's, where there are just so many, and where there are too many to count
    for (int i = 1; i < 4; i += 2) {
      x = without(3, EDGES[i]);
      x.desk(5, 5);
      int[] first = edge(i).picture(5, 0);
      for (int cell = 0; cell < 25; cell++) due("ending(" + cell + ")", x.ending(cell), first[cell]);
    }
  }

  private static void endingNone() {
    due("ending(0) of a new one", new Counted().ending(0), NONE);
    Counted x = lay(only(3, NINE), 2, 2, 0, 1, 2, 0);
    for (int cell = 0; cell < 4; cell++) due("ending(" + cell + ") of one that fits", x.ending(cell), cells(0, 1, 2, 0)[cell]);
    x.cell(3, 1);
    for (int cell = 0; cell < 4; cell++) due("ending(" + cell + ") of one that does not", x.ending(cell), NONE);
    gapped(x, 0, 1, 2);
    for (int cell = 0; cell < 4; cell++) due("ending(" + cell + ") with gaps", x.ending(cell), NONE);
    x.cell(3, -1);
    due("ending(3) of gaps alone", x.ending(3), 0);
  }

  private static void sureInside() {
    // one ending: all is sure
    Counted x = only(3, NINE);
    x.desk(2, 2);
    for (int cell = 0; cell < 4; cell++) due("sure(" + cell + ")", x.sure(cell), cells(0, 1, 2, 0)[cell]);
    // a cell that is no gap is sure, if there is an ending
    x = lay(without(3), 5, 5, mixed(3, 25));
    for (int cell = 0; cell < 25; cell++) due("sure(" + cell + ")", x.sure(cell), mixed(3, 25)[cell]);
    x.cell(24, -1);
    due("sure(24) of three colours", x.sure(24), NONE);
    x.allow(63, false);
    due("sure(24) of two colours", x.sure(24), NONE);
    x.allow(127, false);
    due("sure(24) of one colour", x.sure(24), 2);
    x.allow(63, true);
    x.allow(191, false);
    due("sure(24) of another", x.sure(24), 0);
  }

  private static void sureNone() {
    due("sure(0) of a new one", new Counted().sure(0), NONE);
    Counted x = lay(only(3, NINE), 2, 2, 0, 1, 2, 1);
    for (int cell = 0; cell < 4; cell++) due("sure(" + cell + ") without endings", x.sure(cell), NONE);
    gapped(x, 0, 1, 2);
    for (int cell = 0; cell < 4; cell++) due("sure(" + cell + ") without endings", x.sure(cell), NONE);
    // two endings that are unlike in one cell
    x = without(2);
    x.desk(5, 5);
    for (int cell = 0; cell < 24; cell++) x.cell(cell, 0);
    due("sure(24)", x.sure(24), NONE);
    due("sure(23)", x.sure(23), 0);
    // where there are too many to count
    x = without(3);
    x.desk(5, 5);
    for (int cell = 0; cell < 25; cell++) due("sure(" + cell + ") of gaps alone", x.sure(cell), NONE);
  }

  private static List<int[]> allOf(int c, int h, int w, int... not) {
    List<int[]> found = new ArrayList<>();
    Rows rows = new Rows(ruleWithout(not), c, w);
    for (int i = 0; i < rows.size(h); i++) found.add(rows.picture(h, i));
    return found;
  }

  private static void cluesInside() {
    due("clues() of the only one", learned(2, 3, 4, new int[12]).clues(), 0);
    due("clues() of the only one of one cell", learned(2, 1, 1, cells(1)).clues(), 0);
    due("clues() of one cell of two", lay(without(2), 1, 1, 1).clues(), 1);
    // where all fit all cells are needed
    for (int[] size : new int[][] {{1, 5}, {5, 1}, {2, 4}, {4, 2}}) {
      due("clues() of all", lay(without(2), size[0], size[1], new int[size[0] * size[1]]).clues(), (1 << size[0] * size[1]) - 1);
    }
    // a picture of 0 and one with 1 in a corner: that one cell tells, be its bit the first or the last
    for (int corner : new int[] {0, 3, 8, 11}) {
      int[] p = new int[12];
      p[corner] = 1;
      Counted x = learned(2, 3, 4, new int[12], p);
      due("many(3, 4)", x.many(3, 4), 2);
      due("clues() of 1 in cell " + corner, x.clues(), 1 << corner);
      due("clues() of 0", lay(x, 3, 4, new int[12]).clues(), 1 << corner);
    }
  }

  private static void cluesUnfit() {
    refused(() -> lay(new Counted(), 1, 1, 0), "clues() where nothing is allowed", NOT, x -> x.clues());
    for (int block : NINE) {
      Maker maker = () -> lay(only(3, Arrays.stream(NINE).filter(b -> b != block).toArray()), 2, 2, 0, 1, 2, 0);
      refused(maker, "clues() without " + block, NOT, x -> x.clues());
    }
    due("clues() of one that fits", lay(only(3, NINE), 2, 2, 0, 1, 2, 0).clues(), 0);
    refused(() -> lay(without(2, 0), 2, 2, 0, 0, 0, 0), "clues() where others fit", NOT, x -> x.clues());
    due("clues() where one other does not", lay(without(2, 0), 2, 2, 0, 0, 0, 1).clues(), 7);
  }

  private static void cluesCells() {
    for (int h = 1; h <= 5; h++) {
      for (int w = 1; w <= 5; w++) {
        int high = h;
        int wide = w;
        int[] p = mixed(2, h * w);
        Maker maker = () -> learned(2, high, wide, p);
        if (h * w <= 12) due("clues() of " + h * w + " cells is answered", maker.make().clues() < 0 ? maker.make().clues() : 0, 0);
        else refused(maker, "clues() of " + h * w + " cells", NOT, x -> x.clues());
      }
    }
    due("clues() of three by four", learned(2, 3, 4, new int[12]).clues(), 0);
    due("clues() of four by three", learned(2, 4, 3, new int[12]).clues(), 0);
    due("clues() of three by five", learned(2, 3, 5, new int[15]).clues(), NOT);
    due("clues() of five by three", learned(2, 5, 3, new int[15]).clues(), NOT);
  }

  /** Rules of which just 300 pictures of a size fit, and rules of which 301 do: the blocks that are not allowed. */
  private static void cluesSpent() {
    just300(2, 3, 3, 5, 84);
    just300(2, 3, 4, 31, 55, 85, 253);
    just300(2, 4, 3, 63, 80, 220, 247);
    just300(3, 2, 4, 23, 28, 34, 41, 71, 76, 84, 87, 115, 116, 147, 150, 169, 199, 204, 208, 223, 244, 250, 253, 254);
    just301(2, 3, 4, 0, 21, 76, 119, 127, 253);
    just301(2, 4, 3, 5, 17, 28, 68, 115);
    just301(2, 5, 2, 17, 28, 68, 79, 84, 241);
    just301(3, 2, 4, 16, 18, 53, 55, 77, 105, 119, 136, 137, 143, 151, 167, 191, 240, 251, 252);
    // other sizes do not matter
    Counted x = lay(without(2, 31, 55, 85, 253), 3, 4, new Rows(ruleWithout(31, 55, 85, 253), 2, 4).picture(3, 7));
    due("many(5, 5)", x.many(5, 5) > 300 ? 1 : 0, 1);
    due("clues()", x.clues() >= 0 ? 1 : 0, 1);
  }

  private static void just300(int c, int h, int w, int... not) {
    List<int[]> all = allOf(c, h, w, not);
    due("the model's number", all.size(), 300);
    Counted x = without(c, not);
    due("many(" + h + ", " + w + ")", x.many(h, w), 300);
    for (int i : new int[] {0, 1, 150, 298, 299}) {
      int[] own = all.get(i);
      due("clues() of picture " + i, lay(x, h, w, own).clues(), cluesOf(all, own));
    }
  }

  private static void just301(int c, int h, int w, int... not) {
    List<int[]> all = allOf(c, h, w, not);
    due("the model's number", all.size(), 301);
    due("many(" + h + ", " + w + ")", without(c, not).many(h, w), 301);
    for (int i : new int[] {0, 150, 300}) {
      refused(() -> lay(without(c, not), h, w, all.get(i)), "clues() of picture " + i, SPENT, x -> x.clues());
    }
  }

  // ---- looks

  private static void looks() {
    test(19, "LETTER of a COLOUR: that which it was", BoundaryTests::letterInside);
    test(19, "UNKNOWN", BoundaryTests::letterUnknown);
    test(19, "OUTSIDE", BoundaryTests::letterOutside);
    test(20, "How many PICTURES of a size FIT and have a LOOK (MANY)", BoundaryTests::looksInside);
    test(20, "OUTSIDE: also bits of no CELLS", BoundaryTests::looksOutside);
    test(21, "The COLOUR of a CELL in the first of those", BoundaryTests::lookInside);
    test(21, "NONE", BoundaryTests::lookNone);
    test(21, "OUTSIDE", BoundaryTests::lookOutside);
    test(22, "How many unlike LOOKS the PICTURES of a size have that FIT", BoundaryTests::viewsInside);
    test(22, "OUTSIDE", () -> sizesRefused("views", (x, h, w) -> x.views(h, w)));
    test(22, "NOT: more than 12 CELLS", BoundaryTests::viewsCells);
  }

  private static void letterInside() {
    int[] to = {0, 1, 1, 0, 0, 1};
    for (int colour = 0; colour < 3; colour++) {
      Counted x = of(3);
      int before = colour == 1 ? 1 : 0;
      for (int letter : to) {
        due("letter(" + colour + ", " + letter + ")", x.letter(colour, letter), before);
        before = letter;
      }
      // the others keep theirs
      for (int other = 0; other < 3; other++) if (other != colour) due("letter(" + other + ", 0)", x.letter(other, 0), other == 1 ? 1 : 0);
    }
  }

  private static void letterUnknown() {
    for (int i = 0; i < MAKERS.length; i++) {
      int c = i < 3 ? 2 : 3;
      for (int colour : outside(0, c - 1)) {
        for (int letter : new int[] {0, 1, -1, 2}) {
          refused(MAKERS[i], "letter(" + colour + ", " + letter + ")", UNKNOWN, x -> x.letter(colour, letter));
        }
      }
      due("letter(" + (c - 1) + ", 0)", MAKERS[i].make().letter(c - 1, 0) >= 0 ? 1 : 0, 1);
    }
  }

  private static void letterOutside() {
    allRefused("letter(0, ..)", OUTSIDE, 0, 1, letter -> x -> x.letter(0, letter));
    allRefused("letter(1, ..)", OUTSIDE, 0, 1, letter -> x -> x.letter(1, letter));
    for (int letter : outside(0, 1)) refused(MAKERS[3], "letter(2, " + letter + ")", OUTSIDE, x -> x.letter(2, letter));
  }

  private static int lookOf(int[] p, int... letters) {
    int look = 0;
    for (int i = 0; i < p.length; i++) look |= letters[p[i]] << i;
    return look;
  }

  private static void looksInside() {
    // as many as there are choices of 0 or 2 for each letter 0
    Counted x = without(3);
    for (int h = 1; h <= 5; h++) {
      for (int w = 1; w <= 5; w++) {
        due("looks(" + h + ", " + w + ", 0)", x.looks(h, w, 0), 1 << h * w);
        due("looks(" + h + ", " + w + ", all)", x.looks(h, w, (1 << h * w) - 1), 1);
        due("looks(" + h + ", " + w + ", the last)", x.looks(h, w, 1 << h * w - 1), 1 << h * w - 1);
      }
    }
    for (int i = 0; i < 4; i++) {
      long size = FIRST_EDGE + i;
      x = without(3, EDGES[i]);
      for (int colour = 0; colour < 3; colour++) x.letter(colour, 1);
      due("looks(5, 5, all) of " + size, x.looks(5, 5, (1 << 25) - 1), size > 1000000000L ? MANY : size);
      due("looks(5, 5, 0) of " + size, x.looks(5, 5, 0), 0);
    }
    Random random = new Random(22);
    for (int k = 0; k < 40; k++) {
      int[] not = someBlocks(random, 3, 60);
      int[] letters = {random.nextInt(2), random.nextInt(2), random.nextInt(2)};
      x = without(3, not);
      for (int colour = 0; colour < 3; colour++) x.letter(colour, letters[colour]);
      int[] want = new int[64];
      for (int[] p : fitting(ruleWithout(not), 3, 2, 3)) want[lookOf(p, letters)]++;
      for (int look = 0; look < 64; look++) due("looks(2, 3, " + look + ")", x.looks(2, 3, look), want[look]);
    }
  }

  private static void looksOutside() {
    sizesRefused("looks", (x, h, w) -> x.looks(h, w, 0));
    for (int[] size : new int[][] {{1, 1}, {1, 5}, {5, 1}, {3, 4}, {5, 5}}) {
      int h = size[0];
      int w = size[1];
      for (int look : looksBeyond(h * w)) refused("looks(" + h + ", " + w + ", " + look + ")", OUTSIDE, x -> x.looks(h, w, look));
      due("the greatest look", without(2).looks(h, w, (1 << h * w) - 1), 1);
    }
    for (int h = 1; h <= 5; h++) {
      for (int w = 1; w <= 5; w++) {
        Counted x = without(2);
        due("all bits", x.looks(h, w, (1 << h * w) - 1), 1);
        for (int bit = h * w; bit < 32; bit++) due("bit " + bit, x.looks(h, w, 1 << bit), OUTSIDE);
        due("one bit more", x.looks(h, w, (1 << h * w + 1) - 1), OUTSIDE);
      }
    }
  }

  /** Looks with bits that so many cells do not have. */
  private static int[] looksBeyond(int cells) {
    return new int[] {
      -1, 1 << cells, (1 << cells) + 1, (2 << cells) - 1, 1 << 30, Integer.MIN_VALUE, Integer.MIN_VALUE + 1, Integer.MAX_VALUE
    };
  }

  private static void lookInside() {
    Random random = new Random(23);
    for (int k = 0; k < 40; k++) {
      int[] not = someBlocks(random, 3, 60);
      int[] letters = {random.nextInt(2), random.nextInt(2), random.nextInt(2)};
      int[][] first = new int[64][];
      for (int[] p : fitting(ruleWithout(not), 3, 2, 3)) if (first[lookOf(p, letters)] == null) first[lookOf(p, letters)] = p;
      Counted x = without(3, not);
      for (int colour = 0; colour < 3; colour++) x.letter(colour, letters[colour]);
      for (int look = 0; look < 64; look++) {
        for (int cell : new int[] {0, 3, 5}) {
          int want = first[look] == null ? NONE : first[look][cell];
          due("look(2, 3, " + look + ", " + cell + ")", x.look(2, 3, look, cell), want);
        }
      }
    }
    // the first and the last cell of the greatest size, and the first of too many to count
    Counted x = without(3);
    due("look(5, 5, all, 24)", x.look(5, 5, (1 << 25) - 1, 24), 1);
    due("look(5, 5, 0, 0)", x.look(5, 5, 0, 0), 0);
    x.letter(0, 1);
    x.letter(1, 0);
    due("look(5, 5, 0, 24)", x.look(5, 5, 0, 24), 1);
    x.letter(0, 0);
    due("looks(5, 5, 0)", x.looks(5, 5, 0), MANY);
    due("look(5, 5, 0, 24)", x.look(5, 5, 0, 24), 0);
  }

  private static void lookNone() {
    due("look(1, 1, 0, 0) of a new one", new Counted().look(1, 1, 0, 0), NONE);
    due("look(5, 5, all, 24) of a new one", new Counted().look(5, 5, (1 << 25) - 1, 24), NONE);
    // 0 1 / 2 0 alone fits, and its look is 2
    Counted x = only(3, NINE);
    for (int look = 0; look < 16; look++) {
      for (int cell = 0; cell < 4; cell++) {
        int want = look == 2 ? cells(0, 1, 2, 0)[cell] : NONE;
        due("look(2, 2, " + look + ", " + cell + ")", x.look(2, 2, look, cell), want);
      }
    }
    // a letter that no colour has
    x = without(2);
    x.letter(1, 0);
    due("look(1, 1, 1, 0)", x.look(1, 1, 1, 0), NONE);
    due("look(1, 1, 0, 0)", x.look(1, 1, 0, 0), 0);
  }

  private static void lookOutside() {
    sizesRefused("look", (x, h, w) -> x.look(h, w, 0, 0));
    for (int[] size : new int[][] {{1, 1}, {1, 5}, {5, 1}, {3, 4}, {5, 5}}) {
      int h = size[0];
      int w = size[1];
      for (int look : looksBeyond(h * w)) refused("look(" + h + ", " + w + ", " + look + ", 0)", OUTSIDE, x -> x.look(h, w, look, 0));
      allRefused("look of " + h + " x " + w + ": cell", OUTSIDE, 0, h * w - 1, cell -> x -> x.look(h, w, 0, cell));
      Counted x = without(2);
      due("the last cell of the greatest look", x.look(h, w, (1 << h * w) - 1, h * w - 1), 1);
      due("one cell more", x.look(h, w, (1 << h * w) - 1, h * w), OUTSIDE);
      due("one bit more", x.look(h, w, 1 << h * w, h * w - 1), OUTSIDE);
    }
  }

  private static void viewsInside() {
    due("views(1, 1) of a new one", new Counted().views(1, 1), 0);
    due("views(3, 4) of a new one", new Counted().views(3, 4), 0);
    due("views(2, 2) of one picture", only(3, NINE).views(2, 2), 1);
    Counted x = without(3);
    for (int h = 1; h <= 5; h++) {
      for (int w = 1; w <= 5; w++) if (h * w <= 12) due("views(" + h + ", " + w + ")", x.views(h, w), 1 << h * w);
    }
    x.letter(1, 0);
    due("views(3, 4) of one letter", x.views(3, 4), 1);
    x.letter(2, 1);
    due("views(4, 3) of two letters", x.views(4, 3), 4096);
    Random random = new Random(24);
    for (int k = 0; k < 60; k++) {
      int c = 2 + random.nextInt(2);
      int h = 1 + random.nextInt(3);
      int w = 1 + random.nextInt(c == 2 ? 4 : 3);
      int[] not = someBlocks(random, c, c == 2 ? 30 : 100);
      int[] letters = {random.nextInt(2), random.nextInt(2), random.nextInt(2)};
      x = without(c, not);
      for (int colour = 0; colour < c; colour++) x.letter(colour, letters[colour]);
      boolean[] seen = new boolean[1 << h * w];
      int want = 0;
      for (int[] p : fitting(ruleWithout(not), c, h, w)) {
        if (!seen[lookOf(p, letters)]) want++;
        seen[lookOf(p, letters)] = true;
      }
      due("views(" + h + ", " + w + ")", x.views(h, w), want);
    }
  }

  private static void viewsCells() {
    for (int h = 1; h <= 5; h++) {
      for (int w = 1; w <= 5; w++) {
        int high = h;
        int wide = w;
        if (h * w > 12) refused("views(" + h + ", " + w + ")", NOT, x -> x.views(high, wide));
        else due("views(" + h + ", " + w + ")", without(2).views(h, w), 1 << h * w);
      }
    }
    due("views(3, 4)", without(2).views(3, 4), 4096);
    due("views(4, 3)", without(2).views(4, 3), 4096);
    due("views(3, 5)", without(2).views(3, 5), NOT);
    due("views(5, 3)", without(2).views(5, 3), NOT);
    // the desk's size does not matter
    due("views(1, 1)", lay(without(2), 5, 5, new int[25]).views(1, 1), 2);
  }

  // ---- tall pictures

  private static void tallPictures() {
    test(23, "How many TALL PICTURES of w columns and h ROWS (1 .. 1000000000) FIT", BoundaryTests::tallInside);
    test(23, "modulo 1000000007", BoundaryTests::tallModulo);
    test(23, "OUTSIDE", BoundaryTests::tallOutside);
    test(24, "How many ROWS of w CELLS are LIVE", BoundaryTests::liveInside);
    test(24, "OUTSIDE", () -> allRefused("live", OUTSIDE, 1, 3, w -> x -> x.live(w)));
    test(25, "ENDLESS: 1, 0", BoundaryTests::endlessInside);
    test(25, "OUTSIDE", () -> allRefused("endless", OUTSIDE, 1, 3, w -> x -> x.endless(w)));
    test(26, "The least height of TALL PICTURES of w columns that FIT", BoundaryTests::lowestInside);
    test(26, "NONE", BoundaryTests::lowestNone);
    test(26, "OUTSIDE", () -> allRefused("lowest", OUTSIDE, 1, 3, w -> x -> x.lowest(w)));
  }

  private static void tallInside() {
    int[] heights = {1, 2, 3, 4, 5, 6, 27, 28, 63, 64, 65, 999999999, 1000000000};
    for (int c = 2; c <= 3; c++) {
      Counted x = without(c);
      for (int w = 1; w <= 3; w++) {
        for (int h : heights) due("tall(" + w + ", " + h + ")", x.tall(w, h), modPower(c, (long) w * h));
        due("tall(" + w + ", 0)", x.tall(w, 0), OUTSIDE);
        due("tall(" + w + ", 1000000001)", x.tall(w, 1000000001), OUTSIDE);
      }
    }
    // a column of 0 alone, of any height; and a new one
    Counted x = learned(2, 3, 1, cells(0, 0, 0));
    for (int h : heights) {
      due("tall(1, " + h + ") of 0", x.tall(1, h), 1);
      due("tall(2, " + h + ") of 0", x.tall(2, h), 0);
      due("tall(3, " + h + ") of none", new Counted().tall(3, h), 0);
    }
    // each second height
    x = columns(cells(0), cells(1, 10), cells(1));
    due("tall(1, 1)", x.tall(1, 1), 0);
    due("tall(1, 2)", x.tall(1, 2), 1);
    due("tall(1, 999999999)", x.tall(1, 999999999), 0);
    due("tall(1, 1000000000)", x.tall(1, 1000000000), 1);
  }

  private static void tallModulo() {
    // 1 not above 1: Fibonacci's numbers, the first that is greater than the modulus among them
    Counted x = columns(cells(0, 1), cells(0, 1, 10), cells(0, 1));
    BigInteger modulus = BigInteger.valueOf(1000000007L);
    BigInteger a = BigInteger.ONE;
    BigInteger b = BigInteger.TWO;
    for (int h = 1; h <= 120; h++) {
      due("tall(1, " + h + ")", x.tall(1, h), b.mod(modulus).intValue());
      BigInteger next = a.add(b);
      a = b;
      b = next;
    }
    due("tall(1, 42)", x.tall(1, 42), 701408733);
    due("tall(1, 43)", x.tall(1, 43), 1134903170 - 1000000007);
    // some 2, a 0, and then 0 or 1: 2 to the h, less 1; the modulus divides it where h is 500000003
    x = columns(cells(2, 0), cells(22, 20, 0, 1, 10, 11), cells(0, 1));
    due("tall(1, 1)", x.tall(1, 1), 1);
    due("tall(1, 29)", x.tall(1, 29), (1 << 29) - 1);
    due("tall(1, 30)", x.tall(1, 30), 1073741823 - 1000000007);
    due("tall(1, 500000002)", x.tall(1, 500000002), modPower(2, 500000002L) - 1);
    due("tall(1, 500000003)", x.tall(1, 500000003), 0);
    due("tall(1, 500000004)", x.tall(1, 500000004), 1);
    due("tall(1, 1000000000)", x.tall(1, 1000000000), modPower(2, 1000000000L) - 1);
    due("endless(1)", x.endless(1), 1);
  }

  private static void tallOutside() {
    allRefused("tall(.., 1)", OUTSIDE, 1, 3, w -> x -> x.tall(w, 1));
    allRefused("tall(.., 1000000000)", OUTSIDE, 1, 3, w -> x -> x.tall(w, 1000000000));
    for (int columns = 1; columns <= 3; columns++) {
      int w = columns;
      allRefused("tall(" + w + ", ..)", OUTSIDE, 1, 1000000000, h -> x -> x.tall(w, h));
    }
    refused("tall(0, 0)", OUTSIDE, x -> x.tall(0, 0));
    refused("tall(4, 1000000001)", OUTSIDE, x -> x.tall(4, 1000000001));
  }

  private static void liveInside() {
    for (int c = 2; c <= 3; c++) for (int w = 1; w <= 3; w++) due("live(" + w + ") of all", without(c).live(w), power(c, w));
    for (int w = 1; w <= 3; w++) {
      due("live(" + w + ") of none", new Counted().live(w), 0);
      due("live(" + w + ") of one picture", learned(2, 5, w, new int[5 * w]).live(w), 1);
      due("live(" + w + ") of a row, for itself", learned(2, 1, w, new int[w]).live(w), 1);
    }
    // by all heights: rows that stand in some of them
    Random random = new Random(25);
    for (int k = 0; k < 150; k++) {
      int[] not = someBlocks(random, 2, 50);
      int w = 1 + random.nextInt(3);
      due("live(" + w + ")", without(2, not).live(w), liveOf(ruleWithout(not), w));
    }
  }

  /** How many rows of two colours stand in a picture of a height up to 17, which is as high as one needs to be. */
  private static int liveOf(boolean[] rule, int w) {
    Rows rows = new Rows(rule, 2, w);
    boolean[] comes = new boolean[rows.ring];
    boolean[] ends = new boolean[rows.ring];
    for (int round = 0; round <= rows.ring; round++) {
      for (int r = 0; r < rows.ring; r++) {
        comes[r] |= rows.joined[rows.ring][r];
        ends[r] |= rows.joined[r][rows.ring];
        for (int s = 0; s < rows.ring; s++) {
          comes[r] |= comes[s] && rows.joined[s][r];
          ends[r] |= ends[s] && rows.joined[r][s];
        }
      }
    }
    int sum = 0;
    for (int r = 0; r < rows.ring; r++) if (comes[r] && ends[r]) sum++;
    return sum;
  }

  private static void endlessInside() {
    for (int w = 1; w <= 3; w++) {
      due("endless(" + w + ") of a new one", new Counted().endless(w), 0);
      due("endless(" + w + ") of all", without(3).endless(w), 1);
      due("endless(" + w + ") of one row", learned(2, 1, w, new int[w]).endless(w), 0);
      due("endless(" + w + ") of 0 in two rows", learned(2, 2, w, new int[2 * w]).endless(w), 1);
      due("endless(" + w + ") of the highest that ends", counter(false).endless(w), 0);
      due("endless(" + w + ") of the longest way round", counter(true).endless(w), 1);
    }
    // where no picture of ten or more rows fits there is an end
    due("endless(1) of 0 1 2", columns(cells(0, 1, 2), cells(1, 2, 12), cells(0, 1, 2)).endless(1), 0);
    due("endless(1) of 0 1 2 1", columns(cells(0, 1, 2), cells(1, 2, 12, 21), cells(0, 1, 2)).endless(1), 1);
  }

  private static void lowestInside() {
    for (int w = 1; w <= 3; w++) {
      due("lowest(" + w + ") of all", without(2).lowest(w), 1);
      due("lowest(" + w + ") of a counter", counter(false).lowest(w), power(3, w));
      due("lowest(" + w + ") of one that goes round", counter(true).lowest(w), power(3, w));
      for (int h = 1; h <= 3; h++) {
        int[] p = new int[h * w];
        for (int i = 0; i < h * w; i++) p[i] = i / w;
        due("lowest(" + w + ") of rows that grow", learned(3, h, w, p).lowest(w), h);
      }
    }
    due("lowest(1): a short way and a long one", columns(cells(0), cells(1, 12, 2), cells(2)).lowest(1), 2);
    due("lowest(1): one row is enough", columns(cells(0), cells(0, 1, 12), cells(2, 0)).lowest(1), 1);
  }

  private static void lowestNone() {
    for (int w = 1; w <= 3; w++) due("lowest(" + w + ") of a new one", new Counted().lowest(w), NONE);
    due("lowest(1): nothing ends", columns(cells(0), cells(0, 1, 12, 20), cells()).lowest(1), NONE);
    due("lowest(1): nothing begins", columns(cells(), cells(0, 1, 12, 20), cells(0, 1, 2)).lowest(1), NONE);
    due("lowest(1): no way from the first to the last", columns(cells(0), cells(0, 1, 10, 22), cells(2)).lowest(1), NONE);
    due("lowest(1): the way is there", columns(cells(0), cells(0, 1, 10, 22, 12), cells(2)).lowest(1), 3);
    due("lowest(2) of columns of one cell", columns(cells(0), cells(0), cells(0)).lowest(2), NONE);
  }

  // ---- walkers

  private static void walkers() {
    test(27, "THE WALKER has n STATES, each ACT 5: 1", BoundaryTests::walkerInside);
    test(27, "OUTSIDE", () -> allRefused("walker", OUTSIDE, 1, 5, n -> x -> x.walker(n)));
    test(28, "An ACT of a STATE where it sees so (0 .. 3), with a STATE then: 1", BoundaryTests::actInside);
    test(28, "UNKNOWN: STATES", BoundaryTests::actUnknown);
    test(28, "OUTSIDE", BoundaryTests::actOutside);
    test(29, "THE WALKER over THE DESK's PICTURE: how it ends (what 0: 0 it LEAVES, 1 TAKES, 2 AROUND)", BoundaryTests::walkEnds);
    test(29, "how many steps it made (1; a step out of the ring counts, too)", BoundaryTests::walkSteps);
    test(29, "the STATE in which it is then (2; when it steps out: that from which it did)", BoundaryTests::walkState);
    test(29, "OUTSIDE", () -> allRefused("walk", OUTSIDE, 0, 2, what -> x -> x.walk(what)));
    test(29, "NOT: GAPS", BoundaryTests::walkGaps);
    test(30, "How many PICTURES of a size FIT and are TAKEN by THE WALKER", BoundaryTests::walkedInside);
    test(30, "OUTSIDE", () -> sizesRefused("walked", (x, h, w) -> x.walked(h, w)));
    test(30, "NOT: more than 9 CELLS", BoundaryTests::walkedCells);
    test(31, "0 COLOURS", BoundaryTests::countColours);
    test(31, "1 ROWS of THE DESK", BoundaryTests::countRows);
    test(31, "2 its columns", BoundaryTests::countColumns);
    test(31, "3 its GAPS", BoundaryTests::countGaps);
    test(31, "4 STATES of THE WALKER", BoundaryTests::countStates);
    test(31, "OUTSIDE", () -> allRefused("count", OUTSIDE, 0, 4, what -> x -> x.count(what)));
  }

  private static void walkerInside() {
    for (int n = 1; n <= 5; n++) {
      for (Maker maker : MAKERS) {
        Counted x = maker.make();
        due("walker(" + n + ")", x.walker(n), 1);
        due("count(4)", x.count(4), n);
        due("act of the last state", x.act(n - 1, 3, 5, n - 1), 1);
        due("act of one state more", x.act(n, 3, 5, 0), UNKNOWN);
        due("act to one state more", x.act(0, 3, 5, n), UNKNOWN);
        // each act of each state is 5: what an object tells is what one with a new walker tells
        Counted again = maker.make();
        again.walker(5);
        again.walker(n);
        x = maker.make();
        x.walker(n);
        due("the walker is new", restTold(x).equals(restTold(again)) ? 1 : 0, 1);
        x = maker.make();
        x.walker(n);
        due("the rule stays", ruleTold(x).equals(ruleTold(maker.make())) ? 1 : 0, 1);
      }
    }
    // the same number again wipes, too; a state that went and came again is new
    Counted x = lay(new Counted(), 1, 2, 0, 1);
    x.walker(2);
    x.act(0, 0, 0, 1);
    x.act(1, 1, 4, 0);
    due("walk(0)", x.walk(0), 1);
    x.walker(2);
    ends(x, "new", 0, 0, 0);
    x.act(0, 0, 0, 1);
    ends(x, "its second state is new", 0, 1, 1);
    x.act(1, 1, 4, 0);
    x.walker(1);
    x.walker(2);
    x.act(0, 0, 0, 1);
    ends(x, "its second state is new", 0, 1, 1);
  }

  private static void actInside() {
    for (int n = 1; n <= 5; n++) {
      Counted x = new Counted();
      x.walker(n);
      for (int state : new int[] {0, n - 1}) {
        for (int sees = 0; sees < 4; sees++) {
          for (int act = 0; act < 6; act++) {
            for (int then : new int[] {0, n - 1}) {
              due("act(" + state + ", " + sees + ", " + act + ", " + then + ")", x.act(state, sees, act, then), 1);
            }
          }
        }
      }
    }
    // the last one told counts
    Counted x = lay(new Counted(), 1, 1, 0);
    x.act(0, 0, 4, 0);
    due("walk(0)", x.walk(0), 1);
    x.act(0, 0, 5, 0);
    due("walk(0)", x.walk(0), 0);
    x.act(0, 1, 4, 0);
    due("walk(0): another sight", x.walk(0), 0);
    // a sight that there is not with two colours is taken, and never seen
    due("act(0, 2, 4, 0)", x.act(0, 2, 4, 0), 1);
    due("walk(0)", x.walk(0), 0);
  }

  private static void actUnknown() {
    for (int n = 1; n <= 5; n++) {
      int states = n;
      Maker maker = () -> walking(states);
      for (int state : outside(0, n - 1)) {
        for (int act = 0; act < 6; act += 2) {
          int a = act;
          refused(maker, "act(" + state + ", 0, " + act + ", 0) of " + n, UNKNOWN, x -> x.act(state, 0, a, 0));
          refused(maker, "act(0, 3, " + act + ", " + state + ") of " + n, UNKNOWN, x -> x.act(0, 3, a, state));
        }
        refused(maker, "act(" + state + ", 1, 5, " + state + ") of " + n, UNKNOWN, x -> x.act(state, 1, 5, state));
        refused(maker, "act(0, 0, 5, " + state + ") of " + n, UNKNOWN, x -> x.act(0, 0, 5, state));
      }
      due("act(" + (n - 1) + ", 0, 0, " + (n - 1) + ")", maker.make().act(n - 1, 0, 0, n - 1), 1);
    }
  }

  /** A walker of n states that all do something. */
  private static Counted walking(int n) {
    Counted x = lay(new Counted(), 2, 2, 0, 1, 1, 0);
    x.walker(n);
    for (int state = 0; state < n; state++) for (int sees = 0; sees < 4; sees++) x.act(state, sees, (state + sees) % 5, (state + 1) % n);
    return x;
  }

  private static void actOutside() {
    allRefused("act: sees", OUTSIDE, 0, 3, sees -> x -> x.act(0, sees, 4, 0));
    allRefused("act: sees, a step", OUTSIDE, 0, 3, sees -> x -> x.act(0, sees, 0, 0));
    for (int sees = 0; sees < 4; sees++) {
      int s = sees;
      allRefused("act that sees " + sees, OUTSIDE, 0, 5, act -> x -> x.act(0, s, act, 0));
    }
    allRefused("act: both", OUTSIDE, 0, 5, act -> x -> x.act(0, 4, act, 0));
    // in the last state, too, where a number too great would come to lie behind all others
    Maker maker = () -> walking(5);
    for (int sees : outside(0, 3)) refused(maker, "act(4, " + sees + ", 4, 0)", OUTSIDE, x -> x.act(4, sees, 4, 0));
    for (int act : outside(0, 5)) refused(maker, "act(4, 3, " + act + ", 0)", OUTSIDE, x -> x.act(4, 3, act, 0));
    // a sight before the first is not the last one of the state before
    for (int sees : outside(0, 3)) refused(maker, "act(1, " + sees + ", 4, 0)", OUTSIDE, x -> x.act(1, sees, 4, 0));
  }

  private static void walkEnds() {
    Counted x = lay(new Counted(), 1, 1, 0);
    due("walk(0) of a new one", x.walk(0), 0);
    x.act(0, 0, 5, 0);
    due("walk(0): leaves", x.walk(0), 0);
    x.act(0, 0, 4, 0);
    due("walk(0): takes", x.walk(0), 1);
    x.act(0, 0, 0, 0);
    due("walk(0): leaves in the ring", x.walk(0), 0);
    x.act(0, 3, 4, 0);
    due("walk(0): takes in the ring", x.walk(0), 1);
    x.act(0, 3, 2, 0);
    due("walk(0): around", x.walk(0), 2);
    x.act(0, 3, 0, 0);
    due("walk(0): out", x.walk(0), 0);
    // the desk's picture may be one that does not fit
    due("wrong()", x.wrong(), 0);
    // each walk begins anew
    for (int i = 0; i < 3; i++) due("walk(0) again", x.walk(0), 0);
    x.act(0, 3, 2, 0);
    for (int i = 0; i < 3; i++) ends(x, "around again", 2, 2, 0);
  }

  private static void walkSteps() {
    Counted x = lay(new Counted(), 1, 1, 0);
    due("walk(1) of none: leaves", x.walk(1), 0);
    x.act(0, 0, 4, 0);
    due("walk(1) of none: takes", x.walk(1), 0);
    // into the ring: one; out of it: two
    for (int act = 0; act < 4; act++) {
      x.act(0, 0, act, 0);
      x.act(0, 3, 5, 0);
      due("walk(1) into the ring by " + act, x.walk(1), 1);
      x.act(0, 3, 4, 0);
      due("walk(1) into the ring by " + act, x.walk(1), 1);
      x.act(0, 3, act, 0);
      due("walk(1) out of the ring by " + act, x.walk(1), 2);
      due("walk(0) out of the ring by " + act, x.walk(0), 0);
    }
    // along the longest row and column
    for (int side = 1; side <= 5; side++) {
      due("walk(1) to the right", straight(1, side, 0).walk(1), side + 1);
      due("walk(1) down", straight(side, 1, 1).walk(1), side + 1);
    }
    // the step by which it comes again to a place counts, too
    x.act(0, 0, 0, 0);
    x.act(0, 3, 2, 0);
    due("walk(1) around", x.walk(1), 2);
  }

  private static Counted straight(int h, int w, int act) {
    Counted x = lay(new Counted(), h, w, new int[h * w]);
    x.act(0, 0, act, 0);
    x.act(0, 3, act, 0);
    return x;
  }

  private static void walkState() {
    for (int act = 0; act < 4; act++) {
      Counted x = lay(new Counted(), 1, 1, 0);
      x.walker(5);
      x.act(0, 0, act, 2);
      ends(x, "leaves in the ring", 0, 1, 2);
      // out by act, from state 2, though state 3 is told then
      x.act(2, 3, act, 3);
      ends(x, "out of the ring", 0, 2, 2);
      x.act(2, 3, 4, 3);
      ends(x, "takes: no state then", 1, 1, 2);
      x.act(2, 3, 5, 3);
      ends(x, "leaves: no state then", 0, 1, 2);
      x.act(2, 3, (act + 2) % 4, 4);
      x.act(4, 0, act, 2);
      ends(x, "around", 2, 3, 2);
    }
    Counted x = lay(new Counted(), 1, 1, 0);
    x.walker(5);
    x.act(0, 0, 4, 4);
    ends(x, "takes at once: no state then", 1, 0, 0);
    x.act(0, 0, 5, 4);
    ends(x, "leaves at once: no state then", 0, 0, 0);
  }

  private static void walkGaps() {
    for (int what = 0; what < 3; what++) {
      int k = what;
      gapsRefused("walk(" + what + ")", x -> x.walk(k));
    }
    // though it would not come to the gap
    refused(() -> gapped(lay(new Counted(), 5, 5, new int[25]), 24), "walk(0) far from a gap", NOT, x -> x.walk(0));
    due("walk(0) without a gap", lay(new Counted(), 5, 5, new int[25]).walk(0), 0);
  }

  private static void walkedInside() {
    due("walked(1, 1) of a new one", new Counted().walked(1, 1), 0);
    due("walked(3, 3) of one that leaves", without(2).walked(3, 3), 0);
    for (int c = 2; c <= 3; c++) {
      Counted x = without(c);
      for (int colour = 0; colour < c; colour++) x.act(0, colour, 4, 0);
      for (int h = 1; h <= 5; h++) {
        for (int w = 1; w <= 5; w++) if (h * w <= 9) due("walked(" + h + ", " + w + ") of all", x.walked(h, w), power(c, h * w));
      }
      // those alone that have 1 in cell 0
      for (int colour = 0; colour < c; colour++) x.act(0, colour, colour == 1 ? 4 : 5, 0);
      due("walked(3, 3)", x.walked(3, 3), power(c, 8));
      // to the last row, or to the last column, along the first
      for (int act = 0; act < 2; act++) {
        for (int colour = 0; colour < c; colour++) x.act(0, colour, colour == 1 ? 4 : act, 0);
        due("walked(3, 3) by " + act, x.walked(3, 3), power(c, 9) - power(c - 1, 3) * power(c, 6));
        for (int colour = 0; colour < c; colour++) x.act(0, colour, act, 0);
        due("walked(3, 3), out", x.walked(3, 3), 0);
        x.act(0, 3, 4, 0);
        due("walked(3, 3), taken in the ring", x.walked(3, 3), power(c, 9));
        x.act(0, 3, act + 2, 0);
        due("walked(3, 3), around", x.walked(3, 3), 0);
        x.act(0, 3, 5, 0);
      }
    }
    // those that fit, alone
    Counted x = learned(2, 1, 2, cells(0, 1), cells(1, 1));
    x.act(0, 0, 4, 0);
    due("walked(1, 2)", x.walked(1, 2), 1);
    x.act(0, 1, 4, 0);
    due("walked(1, 2)", x.walked(1, 2), 2);
    due("walked(1, 1): 1, but not 0", x.walked(1, 1), 1);
    walkedOneByOne();
  }

  /** The walker goes over each picture that fits, laid on the desk. */
  private static void walkedOneByOne() {
    Random random = new Random(26);
    for (int k = 0; k < 60; k++) {
      int[] not = someBlocks(random, 2, 30);
      int h = 1 + random.nextInt(3);
      int w = 1 + random.nextInt(h == 3 ? 2 : 3);
      Counted x = without(2, not);
      int n = 1 + random.nextInt(5);
      x.walker(n);
      for (int state = 0; state < n; state++) {
        for (int sees = 0; sees < 4; sees++) x.act(state, sees, random.nextInt(7) % 5, random.nextInt(n));
      }
      int want = 0;
      for (int[] p : fitting(ruleWithout(not), 2, h, w)) want += lay(x, h, w, p).walk(0) == 1 ? 1 : 0;
      due("walked(" + h + ", " + w + ")", x.walked(h, w), want);
    }
  }

  private static void walkedCells() {
    for (int h = 1; h <= 5; h++) {
      for (int w = 1; w <= 5; w++) {
        int high = h;
        int wide = w;
        if (h * w > 9) {
          refused("walked(" + h + ", " + w + ")", NOT, x -> x.walked(high, wide));
        } else {
          Counted x = without(2);
          for (int sees = 0; sees < 2; sees++) x.act(0, sees, 4, 0);
          due("walked(" + h + ", " + w + ")", x.walked(h, w), 1 << h * w);
        }
      }
    }
    // the desk's gaps and size do not matter
    Counted x = without(2);
    x.act(0, 0, 4, 0);
    x.desk(5, 5);
    due("walked(3, 3)", x.walked(3, 3), 256);
  }

  private static void countColours() {
    Counted x = new Counted();
    due("count(0)", x.count(0), 2);
    x.colours(3);
    due("count(0)", x.count(0), 3);
    x.colours(4);
    due("count(0)", x.count(0), 3);
    x.colours(2);
    due("count(0)", x.count(0), 2);
  }

  private static void countRows() {
    Counted x = new Counted();
    due("count(1)", x.count(1), 1);
    for (int h = 1; h <= 5; h++) {
      x.desk(h, 6 - h);
      due("count(1)", x.count(1), h);
    }
    x.desk(6, 1);
    due("count(1) after a refusal", x.count(1), 5);
  }

  private static void countColumns() {
    Counted x = new Counted();
    due("count(2)", x.count(2), 1);
    for (int w = 1; w <= 5; w++) {
      x.desk(6 - w, w);
      due("count(2)", x.count(2), w);
    }
    x.desk(1, 6);
    due("count(2) after a refusal", x.count(2), 5);
  }

  private static void countGaps() {
    Counted x = new Counted();
    due("count(3) of a new one", x.count(3), 1);
    x.cell(0, 0);
    due("count(3) of none", x.count(3), 0);
    x.desk(5, 5);
    for (int i = 0; i < 25; i++) {
      due("count(3)", x.count(3), 25 - i);
      x.cell(i, i % 2);
    }
    due("count(3) of none", x.count(3), 0);
    x.cell(24, -1);
    due("count(3)", x.count(3), 1);
    x.cell(24, -1);
    due("count(3): the same gap again", x.count(3), 1);
    x.cell(25, -1);
    due("count(3) after a refusal", x.count(3), 1);
    x.paint(0);
    due("count(3) after paint", x.count(3), 0);
  }

  private static void countStates() {
    Counted x = new Counted();
    due("count(4)", x.count(4), 1);
    for (int n = 5; n >= 1; n--) {
      x.walker(n);
      due("count(4)", x.count(4), n);
    }
    x.walker(6);
    due("count(4) after a refusal", x.count(4), 1);
  }
}
