import java.math.BigInteger;

/** For each promise of the document: ordinary inputs, the edges that it names, and wrong inputs. */
public final class PromiseTests {
  private static final int NONE = -1, UNKNOWN = -2, OUTSIDE = -3, NOT = -4, SPENT = -6, MANY = 1000000001;
  private static final int[] WRONG_SIDES = {Integer.MIN_VALUE, -1, 0, 6, 1 << 16, Integer.MAX_VALUE};

  private static int promise = 0;
  private static int wrong = 0;
  private static int asked = 0;

  private static void due(String call, int got, int want) {
    asked++;
    if (got != want) {
      wrong++;
      System.out.println("promise " + promise + ": " + call + " answered " + got + ", due is " + want);
    }
  }

  public static void main(String[] args) {
    newObject();
    colours();
    allow();
    desk();
    cell();
    paint();
    learn();
    wrongWindow();
    blocks();
    close();
    many();
    picture();
    rank();
    sizes();
    endings();
    ending();
    sure();
    clues();
    letter();
    looks();
    look();
    views();
    tall();
    live();
    endless();
    lowest();
    walker();
    act();
    walk();
    walked();
    count();
    System.out.println(asked + " answers asked for, " + wrong + " wrong; promises up to " + promise);
    if (wrong != 0 || promise != 31) System.exit(1);
  }

  /** An object of c colours with all blocks allowed. */
  private static SmallWindows open(int c) {
    SmallWindows x = new SmallWindows();
    x.colours(c);
    for (int block = 0; block < 256; block++) x.allow(block, true);
    return x;
  }

  /** An object of two colours that has learned pictures of a size. */
  private static SmallWindows taught(int h, int w, long... rows) {
    SmallWindows x = new SmallWindows();
    x.desk(h, w);
    for (long row : rows) {
      x.paint(row);
      x.learn();
    }
    return x;
  }

  private static int power(int base, int times) {
    int number = 1;
    for (int i = 0; i < times; i++) number *= base;
    return number;
  }

  private static void isNew(SmallWindows x, int c) {
    due("count(0)", x.count(0), c);
    due("count(1)", x.count(1), 1);
    due("count(2)", x.count(2), 1);
    due("count(3)", x.count(3), 1);
    due("count(4)", x.count(4), 1);
    due("blocks(-1)", x.blocks(-1), 0);
    for (int block = 0; block < 256; block++) {
      boolean two = (block & 3) == 2 || (block >> 2 & 3) == 2 || (block >> 4 & 3) == 2 || block >> 6 == 2;
      due("allow(" + block + ", false)", x.allow(block, false), two && c == 2 ? OUTSIDE : 0);
    }
    due("sizes()", x.sizes(), 0);
    due("letter(0, 0)", x.letter(0, 0), 0);
    due("letter(1, 1)", x.letter(1, 1), 1);
    due("letter(2, 0)", x.letter(2, 0), c == 2 ? UNKNOWN : 0);
    due("act(1, 0, 0, 0)", x.act(1, 0, 0, 0), UNKNOWN);
    due("cell(0, 0)", x.cell(0, 0), -1);
    due("cell(1, 0)", x.cell(1, 0), UNKNOWN);
    due("walk(0)", x.walk(0), 0);
    due("walk(1)", x.walk(1), 0);
    due("cell(0, -1)", x.cell(0, -1), 0);
  }

  private static void newObject() {
    promise = 1;
    isNew(new SmallWindows(), 2);
    due("NONE", SmallWindows.NONE, -1);
    due("UNKNOWN", SmallWindows.UNKNOWN, -2);
    due("OUTSIDE", SmallWindows.OUTSIDE, -3);
    due("NOT", SmallWindows.NOT, -4);
    due("SPENT", SmallWindows.SPENT, -6);
    due("MANY", SmallWindows.MANY, 1000000001);
    SmallWindows x = new SmallWindows();
    open(3);
    due("another object's blocks(-1)", x.blocks(-1), 0);
  }

  /** Changes all that can be changed; with few calls, since what an object answers after 512 is free. */
  private static void unsettle(SmallWindows x) {
    for (int block = 0; block < 256; block += 5) x.allow(block, true);
    x.desk(3, 4);
    x.cell(5, 1);
    x.letter(0, 1);
    x.letter(1, 0);
    x.letter(2, 1);
    x.walker(4);
    for (int state = 0; state < 4; state++) for (int sees = 0; sees < 4; sees++) x.act(state, sees, 4, 3);
  }

  private static void colours() {
    promise = 2;
    SmallWindows x = null;
    for (int before = 2; before <= 3; before++) {
      for (int c = 2; c <= 3; c++) {
        x = new SmallWindows();
        x.colours(before);
        unsettle(x);
        due("colours(" + c + ")", x.colours(c), before);
        isNew(x, c);
      }
    }
    x = new SmallWindows();
    unsettle(x);
    int blocks = x.blocks(-1);
    for (int c : new int[] {Integer.MIN_VALUE, -1, 0, 1, 4, Integer.MAX_VALUE}) due("colours(" + c + ")", x.colours(c), OUTSIDE);
    due("blocks(-1)", x.blocks(-1), blocks);
    due("count(1)", x.count(1), 3);
    due("count(4)", x.count(4), 4);
  }

  private static void allow() {
    promise = 3;
    SmallWindows x = new SmallWindows();
    due("allow(0, true)", x.allow(0, true), 0);
    due("allow(0, true)", x.allow(0, true), 1);
    due("allow(255, false)", x.allow(255, false), 0);
    due("allow(255, true)", x.allow(255, true), 0);
    due("blocks(-1)", x.blocks(-1), 2);
    due("allow(0, false)", x.allow(0, false), 1);
    due("allow(0, false)", x.allow(0, false), 0);
    due("blocks(-1)", x.blocks(-1), 1);
    for (int block : new int[] {Integer.MIN_VALUE, -1, 256, 2, 8, 32, 128, 170, 254, Integer.MAX_VALUE}) {
      due("allow(" + block + ", true)", x.allow(block, true), OUTSIDE);
    }
    due("blocks(-1)", x.blocks(-1), 1);
    x.colours(3);
    for (int block : new int[] {2, 8, 32, 128, 170, 254}) due("allow(" + block + ", true)", x.allow(block, true), 0);
    due("allow(256, true)", x.allow(256, true), OUTSIDE);
    due("allow(-1, true)", x.allow(-1, true), OUTSIDE);
    due("blocks(-1)", x.blocks(-1), 6);
    due("open(2).blocks(-1)", open(2).blocks(-1), 81);
    due("open(3).blocks(-1)", open(3).blocks(-1), 256);
  }

  private static void desk() {
    promise = 4;
    SmallWindows x = new SmallWindows();
    for (int h = 1; h <= 5; h++) {
      for (int w = 1; w <= 5; w++) {
        x.paint(0);
        due("desk(" + h + ", " + w + ")", x.desk(h, w), 1);
        due("count(1)", x.count(1), h);
        due("count(2)", x.count(2), w);
        due("count(3)", x.count(3), h * w);
      }
    }
    x.desk(2, 3);
    x.paint(1);
    for (int side : WRONG_SIDES) {
      due("desk(" + side + ", 1)", x.desk(side, 1), OUTSIDE);
      due("desk(1, " + side + ")", x.desk(1, side), OUTSIDE);
    }
    due("count(1)", x.count(1), 2);
    due("count(2)", x.count(2), 3);
    due("count(3)", x.count(3), 0);
    due("cell(0, 0)", x.cell(0, 0), 1);
  }

  private static void cell() {
    promise = 5;
    SmallWindows x = new SmallWindows();
    x.desk(2, 3);
    due("cell(5, 1)", x.cell(5, 1), -1);
    due("cell(5, 0)", x.cell(5, 0), 1);
    due("cell(5, -1)", x.cell(5, -1), 0);
    due("cell(5, -1)", x.cell(5, -1), -1);
    due("cell(0, 1)", x.cell(0, 1), -1);
    due("count(3)", x.count(3), 5);
    for (int cell : new int[] {Integer.MIN_VALUE, -1, 6, 25, Integer.MAX_VALUE}) due("cell(" + cell + ", 0)", x.cell(cell, 0), UNKNOWN);
    for (int colour : new int[] {Integer.MIN_VALUE, -2, 2, 3, Integer.MAX_VALUE}) due("cell(0, " + colour + ")", x.cell(0, colour), UNKNOWN);
    due("cell(0, 1)", x.cell(0, 1), 1);
    x.colours(3);
    due("cell(0, 2)", x.cell(0, 2), -1);
    due("cell(0, 3)", x.cell(0, 3), UNKNOWN);
    due("cell(0, 0)", x.cell(0, 0), 2);
  }

  private static void paint() {
    promise = 6;
    SmallWindows x = new SmallWindows();
    x.desk(2, 2);
    due("paint(4 + 64)", x.paint(4 + 64), 1);
    int[] want = {0, 1, 0, 1};
    for (int i = 0; i < 4; i++) due("cell(" + i + ", 0)", x.cell(i, 0), want[i]);
    due("paint: 2 of two colours", x.paint(2L << 6), OUTSIDE);
    due("paint: the border", x.paint(3), OUTSIDE);
    due("paint: nothing changed", x.count(3), 0);
    due("paint: bits beyond", x.paint(-1L << 8 | 1), 1);
    due("cell(0, 0)", x.cell(0, 0), 1);
    x.cell(1, -1);
    due("paint: refused, and the gap stays", x.paint(1 | 2L << 6), OUTSIDE);
    due("count(3)", x.count(3), 1);
    due("cell(0, 0)", x.cell(0, 0), 0);
    x.colours(3);
    x.desk(5, 5);
    due("paint: cell 24", x.paint(2L << 48), 1);
    due("cell(24, 0)", x.cell(24, 0), 2);
    due("cell(23, 0)", x.cell(23, 0), 0);
    due("paint: the border in cell 24", x.paint(3L << 48), OUTSIDE);
    due("paint: beyond cell 24", x.paint(-1L << 50), 1);
    due("paint: all bits", x.paint(-1L), OUTSIDE);
  }

  private static void learn() {
    promise = 7;
    SmallWindows x = new SmallWindows();
    x.desk(1, 2);
    x.cell(0, 0);
    due("learn() with a gap", x.learn(), NOT);
    due("blocks(-1)", x.blocks(-1), 0);
    x.cell(1, 1);
    due("learn()", x.learn(), 6);
    due("learn() again", x.learn(), 0);
    // 3 3 / 3 0, 3 3 / 0 1, 3 3 / 1 3 and 3 0 / 3 3, 0 1 / 3 3, 1 3 / 3 3
    for (int block : new int[] {252, 241, 247, 207, 31, 127}) due("allow(" + block + ", true)", x.allow(block, true), 1);
    x.allow(31, false);
    due("learn() of one", x.learn(), 1);
    x.desk(5, 5);
    x.paint(0);
    due("learn(): each block once", x.learn(), 7);
  }

  private static void wrongWindow() {
    promise = 8;
    SmallWindows x = taught(2, 3, 0);
    due("wrong()", x.wrong(), NONE);
    x.allow(207, false);
    due("wrong(): lower left", x.wrong(), 8);
    x.allow(0, false);
    due("wrong(): the first inside", x.wrong(), 5);
    x.cell(2, 1);
    due("wrong(): window 2", x.wrong(), 2);
    x.allow(252, false);
    due("wrong(): window 0", x.wrong(), 0);
    x.cell(2, -1);
    due("wrong() with a gap", x.wrong(), NOT);
    x = taught(5, 5, 0);
    x.allow(63, false);
    due("wrong(): the last window has 0 3 / 3 3", x.wrong(), 35);
  }

  private static void blocks() {
    promise = 9;
    SmallWindows x = new SmallWindows();
    x.colours(3);
    for (int turn = -1; turn <= 3; turn++) due("blocks(" + turn + ")", x.blocks(turn), 0);
    x.allow(27, true);
    for (int turn = -1; turn <= 3; turn++) due("blocks(" + turn + ")", x.blocks(turn), 1);
    int[] turned = {141, 78, 177, 75};
    for (int turn = 0; turn < 4; turn++) {
      x.colours(3);
      x.allow(27, true);
      x.allow(turned[turn], true);
      for (int other = 0; other < 4; other++) {
        due("blocks(" + other + ")", x.blocks(other), other != turn ? 2 : turn == 0 ? 1 : 0);
      }
    }
    for (int turn : new int[] {Integer.MIN_VALUE, -2, 4, Integer.MAX_VALUE}) due("blocks(" + turn + ")", x.blocks(turn), OUTSIDE);
  }

  private static void close() {
    promise = 10;
    int[] came = {3, 1, 1, 1};
    int[] turned = {141, 78, 177, 75};
    for (int turn = 0; turn < 4; turn++) {
      SmallWindows x = new SmallWindows();
      x.colours(3);
      x.allow(27, true);
      due("close(" + turn + ")", x.close(turn), came[turn]);
      due("blocks(" + turn + ")", x.blocks(turn), 0);
      due("blocks(-1)", x.blocks(-1), 1 + came[turn]);
      due("allow(" + turned[turn] + ", true)", x.allow(turned[turn], true), 1);
      due("close(" + turn + ") again", x.close(turn), 0);
      x.allow(255, true);
      due("close(" + turn + ") of one that stays", x.close(turn), 0);
    }
    SmallWindows x = new SmallWindows();
    due("close(0) of nothing", x.close(0), 0);
    x.allow(1, true);
    for (int turn : new int[] {Integer.MIN_VALUE, -1, 4, Integer.MAX_VALUE}) due("close(" + turn + ")", x.close(turn), OUTSIDE);
    due("blocks(-1)", x.blocks(-1), 1);
    due("close(0)", x.close(0), 3);
    due("close(3)", x.close(3), 4);
    due("allow(84, true): 1 1 / 1 0", x.allow(84, true), 1);
  }

  private static void many() {
    promise = 11;
    SmallWindows two = open(2);
    SmallWindows three = open(3);
    for (int h = 1; h <= 5; h++) {
      for (int w = 1; w <= 5; w++) {
        due("many(" + h + ", " + w + ")", two.many(h, w), power(2, h * w));
        due("many(" + h + ", " + w + ") of three", three.many(h, w), h * w > 18 ? MANY : power(3, h * w));
      }
    }
    due("many(1, 1) of a new one", new SmallWindows().many(1, 1), 0);
    // without 1 beside 1 or above 1
    for (int block = 0; block < 256; block++) {
      int a = block >> 6, b = block >> 4 & 3, c = block >> 2 & 3, d = block & 3;
      if (a == 1 && b == 1 || c == 1 && d == 1 || a == 1 && c == 1 || b == 1 && d == 1) two.allow(block, false);
    }
    int[] squares = {2, 7, 63, 1234, 55447};
    for (int i = 0; i < 5; i++) due("many of independent sets", two.many(i + 1, i + 1), squares[i]);
    due("many(2, 3)", two.many(2, 3), 17);
    due("many(3, 2)", two.many(3, 2), 17);
    for (int side : WRONG_SIDES) {
      due("many(" + side + ", 1)", two.many(side, 1), OUTSIDE);
      due("many(1, " + side + ")", two.many(1, side), OUTSIDE);
    }
  }

  private static void picture() {
    promise = 12;
    SmallWindows x = open(3);
    int[] want = {0, 0, 1, 2};
    for (int i = 0; i < 4; i++) due("picture(2, 2, 5, " + i + ")", x.picture(2, 2, 5, i), want[i]);
    due("picture(2, 2, 80, 0)", x.picture(2, 2, 80, 0), 2);
    due("picture(2, 2, 81, 0)", x.picture(2, 2, 81, 0), NONE);
    int left = 999999999;
    for (int i = 24; i >= 0; i--) {
      due("picture(5, 5, 999999999, " + i + ")", x.picture(5, 5, 999999999, i), left % 3);
      left /= 3;
    }
    due("picture: i too great", x.picture(5, 5, 1000000000, 0), OUTSIDE);
    due("picture: i below 0", x.picture(5, 5, -1, 0), OUTSIDE);
    due("picture: i far below 0", x.picture(5, 5, Integer.MIN_VALUE, 0), OUTSIDE);
    due("picture: cell 25", x.picture(5, 5, 0, 25), OUTSIDE);
    due("picture: cell -1", x.picture(5, 5, 0, -1), OUTSIDE);
    due("picture: cell 4", x.picture(2, 2, 0, 4), OUTSIDE);
    for (int side : WRONG_SIDES) {
      due("picture(" + side + ", 1, 0, 0)", x.picture(side, 1, 0, 0), OUTSIDE);
      due("picture(1, " + side + ", 0, 0)", x.picture(1, side, 0, 0), OUTSIDE);
    }
    due("picture of a new one", new SmallWindows().picture(1, 1, 0, 0), NONE);
    x = taught(1, 2, 4, 5);
    due("picture 0", x.picture(1, 2, 0, 0), 0);
    due("picture 1", x.picture(1, 2, 1, 0), 1);
    due("picture 1, cell 1", x.picture(1, 2, 1, 1), 1);
    due("picture 2", x.picture(1, 2, 2, 1), NONE);
  }

  /** The row that paints picture i of those with all blocks allowed. */
  private static long rowOf(int c, int cells, long i) {
    long row = 0;
    long left = i;
    for (int cell = cells - 1; cell >= 0; cell--) {
      row |= left % c << 2 * cell;
      left /= c;
    }
    return row;
  }

  private static void rank() {
    promise = 13;
    SmallWindows x = open(3);
    x.desk(2, 2);
    for (int i = 0; i < 81; i++) {
      x.paint(rowOf(3, 4, i));
      due("rank() of " + i, x.rank(), i);
    }
    x.desk(5, 5);
    long[] places = {0, 1, 999999999L, 1000000000L, 1000000001L, 1000000002L, 5000000000L, 847288609442L};
    for (long place : places) {
      x.paint(rowOf(3, 25, place));
      due("rank() of " + place, x.rank(), place > 1000000000L ? MANY : (int) place);
    }
    x.cell(24, -1);
    due("rank() with a gap", x.rank(), NOT);
    x.paint(0);
    x.allow(0, false);
    due("rank() of one that does not fit", x.rank(), NONE);
    x = taught(1, 2, 4, 5);
    due("rank()", x.rank(), 1);
    x.paint(4);
    due("rank()", x.rank(), 0);
    x.paint(0);
    due("rank()", x.rank(), NONE);
  }

  private static void sizes() {
    promise = 14;
    due("sizes() of a new one", new SmallWindows().sizes(), 0);
    due("sizes() of all", open(2).sizes(), (1 << 25) - 1);
    due("sizes() of all of three", open(3).sizes(), (1 << 25) - 1);
    for (int h = 1; h <= 5; h++) {
      for (int w = 1; w <= 5; w++) {
        SmallWindows x = new SmallWindows();
        x.desk(h, w);
        for (int i = 0; i < h * w; i++) x.cell(i, (i / w * 2 + i % w) % 3 == 0 ? 1 : 0);
        x.learn();
        int bits = 0;
        for (int i = 0; i < 25; i++) if (x.many(i / 5 + 1, i % 5 + 1) > 0) bits |= 1 << i;
        due("sizes() as many tells", x.sizes(), bits);
        due("sizes() has its own", bits >> 5 * (h - 1) + w - 1 & 1, 1);
      }
    }
    due("sizes() of 1 x 1", taught(1, 1, 0).sizes(), 1);
    due("sizes() of 1 x 2", taught(1, 2, 4).sizes(), 2);
    due("sizes() of 2 x 1", taught(2, 1, 4).sizes(), 32);
    due("sizes() of a row of 0", taught(1, 2, 0).sizes(), 31);
    due("sizes() of a column of 0", taught(3, 1, 0).sizes(), 1 | 1 << 5 | 1 << 10 | 1 << 15 | 1 << 20);
  }

  private static void endings() {
    promise = 15;
    SmallWindows x = open(3);
    due("endings() of a gap", x.endings(), 3);
    x.desk(5, 5);
    due("endings() of all gaps", x.endings(), MANY);
    for (int i = 0; i < 6; i++) x.cell(i, i % 3);
    due("endings() of 19 gaps", x.endings(), MANY);
    x.cell(24, 2);
    due("endings() of 18 gaps", x.endings(), power(3, 18));
    x.paint(0);
    due("endings() of a picture that fits", x.endings(), 1);
    x.allow(0, false);
    due("endings() of one that does not", x.endings(), 0);
    x = taught(1, 2, 4, 5);
    x.desk(1, 2);
    due("endings()", x.endings(), 2);
    x.cell(0, 1);
    due("endings()", x.endings(), 1);
    x.cell(1, 0);
    due("endings()", x.endings(), 0);
    due("endings() of a new one", new SmallWindows().endings(), 0);
  }

  private static void ending() {
    promise = 16;
    SmallWindows x = taught(1, 2, 4, 5);
    x.desk(1, 2);
    due("ending(0)", x.ending(0), 0);
    due("ending(1)", x.ending(1), 1);
    x.cell(0, 1);
    due("ending(0)", x.ending(0), 1);
    x.cell(1, 0);
    due("ending(0)", x.ending(0), NONE);
    due("count(3)", x.count(3), 0);
    for (int cell : new int[] {Integer.MIN_VALUE, -1, 2, 24, Integer.MAX_VALUE}) due("ending(" + cell + ")", x.ending(cell), UNKNOWN);
    x = open(3);
    x.desk(5, 5);
    x.cell(24, 2);
    due("ending(24)", x.ending(24), 2);
    due("ending(23)", x.ending(23), 0);
    x.allow(0, false);
    x.allow(192 + 12, false);
    due("ending(0): not 0 below the corner and 0 below that", x.ending(0), 0);
    due("ending(5)", x.ending(5), 1);
  }

  private static void sure() {
    promise = 17;
    SmallWindows x = taught(1, 2, 4, 5);
    x.desk(1, 2);
    due("sure(0)", x.sure(0), NONE);
    due("sure(1)", x.sure(1), 1);
    x.cell(0, 0);
    due("sure(0) of a colour", x.sure(0), 0);
    due("sure(1)", x.sure(1), 1);
    x.cell(1, 0);
    due("sure(0) without endings", x.sure(0), NONE);
    for (int cell : new int[] {Integer.MIN_VALUE, -1, 2, 24, Integer.MAX_VALUE}) due("sure(" + cell + ")", x.sure(cell), UNKNOWN);
    x = open(3);
    x.desk(5, 5);
    due("sure(12)", x.sure(12), NONE);
    x.cell(12, 2);
    due("sure(12)", x.sure(12), 2);
    due("sure(11)", x.sure(11), NONE);
    due("count(3)", x.count(3), 24);
    // 2 at the right border alone: 0 and 1 may not stand there
    for (int block = 0; block < 256; block++) if ((block & 3) == 3 && (block >> 2 & 3) < 2) x.allow(block, false);
    due("sure(4)", x.sure(4), 2);
    due("sure(3)", x.sure(3), NONE);
  }

  private static void clues() {
    promise = 18;
    SmallWindows x = open(2);
    x.desk(2, 4);
    due("clues() with gaps", x.clues(), NOT);
    x.paint(0);
    due("clues() where all 256 fit", x.clues(), 255);
    x.desk(3, 3);
    x.paint(0);
    due("clues() where 512 fit", x.clues(), SPENT);
    x.desk(3, 5);
    x.paint(0);
    due("clues() of 15 cells", x.clues(), NOT);
    x.desk(4, 3);
    x.paint(0);
    due("clues() of 12 cells", x.clues(), SPENT);
    x.cell(3, -1);
    due("clues() with a gap where too many fit", x.clues(), NOT);
    x.desk(3, 3);
    x.allow(20, false);
    x.allow(1, false);
    due("many(3, 3)", x.many(3, 3), 300);
    x.paint(0);
    // without 0 0 / 0 1, a first row and a first column of 0 leave nothing but 0
    due("clues() where 300 fit", x.clues(), 1 + 2 + 4 + 8 + 64);
    x.paint(1 << 8);
    due("clues() where it does not fit", x.clues(), NOT);
    x = open(2);
    for (int block : new int[] {5, 17, 79, 115}) x.allow(block, false);
    due("many(3, 4)", x.many(3, 4), 301);
    x.desk(3, 4);
    for (int i = 0; i < 12; i++) x.cell(i, x.picture(3, 4, 0, i));
    due("clues() where 301 fit", x.clues(), SPENT);
    // 0 1, 1 1: the first cell tells them apart
    x = taught(1, 2, 4, 5);
    due("clues()", x.clues(), 1);
    // 0 0 and 1 1: either cell does, and the first is the lesser number
    x = taught(1, 2, 0, 5);
    due("clues()", x.clues(), 1);
    due("clues() of the only one", taught(3, 4, 0).clues(), 0);
  }

  private static void letter() {
    promise = 19;
    SmallWindows x = open(3);
    due("letter(2, 1)", x.letter(2, 1), 0);
    due("letter(2, 1)", x.letter(2, 1), 1);
    due("letter(0, 1)", x.letter(0, 1), 0);
    due("letter(1, 0)", x.letter(1, 0), 1);
    due("letter(1, 1)", x.letter(1, 1), 0);
    due("looks(1, 1, 0)", x.looks(1, 1, 0), 0);
    for (int letter : new int[] {Integer.MIN_VALUE, -1, 2, Integer.MAX_VALUE}) {
      due("letter(0, " + letter + ")", x.letter(0, letter), OUTSIDE);
      due("letter(3, " + letter + ")", x.letter(3, letter), UNKNOWN);
    }
    for (int colour : new int[] {Integer.MIN_VALUE, -1, 3, Integer.MAX_VALUE}) due("letter(" + colour + ", 0)", x.letter(colour, 0), UNKNOWN);
    due("looks(1, 1, 1)", x.looks(1, 1, 1), 3);
    due("letter(2, 0) of two", new SmallWindows().letter(2, 0), UNKNOWN);
  }

  private static void looks() {
    promise = 20;
    SmallWindows x = open(3);
    int[] want = {4, 2, 2, 1};
    for (int look = 0; look < 4; look++) due("looks(1, 2, " + look + ")", x.looks(1, 2, look), want[look]);
    due("looks(5, 5, 0)", x.looks(5, 5, 0), 1 << 25);
    due("looks(5, 5, all)", x.looks(5, 5, (1 << 25) - 1), 1);
    due("looks(5, 5, one)", x.looks(5, 5, 1 << 24), 1 << 24);
    due("looks: a bit too much", x.looks(5, 5, 1 << 25), OUTSIDE);
    due("looks: a bit too much", x.looks(1, 2, 4), OUTSIDE);
    due("looks: below 0", x.looks(1, 2, -1), OUTSIDE);
    due("looks: far below 0", x.looks(5, 5, Integer.MIN_VALUE), OUTSIDE);
    for (int side : WRONG_SIDES) {
      due("looks(" + side + ", 1, 0)", x.looks(side, 1, 0), OUTSIDE);
      due("looks(1, " + side + ", 0)", x.looks(1, side, 0), OUTSIDE);
    }
    x.letter(1, 0);
    due("looks(5, 5, 0) of one letter", x.looks(5, 5, 0), MANY);
    due("looks(5, 5, 1) of one letter", x.looks(5, 5, 1), 0);
    x = taught(1, 2, 4, 5);
    due("looks(1, 2, 2)", x.looks(1, 2, 2), 1);
    due("looks(1, 2, 1)", x.looks(1, 2, 1), 0);
  }

  private static void look() {
    promise = 21;
    SmallWindows x = open(3);
    due("look(1, 2, 1, 0)", x.look(1, 2, 1, 0), 1);
    due("look(1, 2, 1, 1)", x.look(1, 2, 1, 1), 0);
    x.letter(0, 1);
    due("look(1, 2, 1, 0)", x.look(1, 2, 1, 0), 0);
    due("look(1, 2, 1, 1)", x.look(1, 2, 1, 1), 2);
    due("look(5, 5, 0, 24)", x.look(5, 5, 0, 24), 2);
    x.letter(2, 1);
    due("look(5, 5, 0, 24)", x.look(5, 5, 0, 24), NONE);
    due("look: a bit too much", x.look(1, 2, 4, 0), OUTSIDE);
    due("look: below 0", x.look(1, 2, -1, 0), OUTSIDE);
    due("look: no such cell", x.look(1, 2, 0, 2), OUTSIDE);
    due("look: no such cell", x.look(1, 2, 0, -1), OUTSIDE);
    for (int side : WRONG_SIDES) {
      due("look(" + side + ", 1, 0, 0)", x.look(side, 1, 0, 0), OUTSIDE);
      due("look(1, " + side + ", 0, 0)", x.look(1, side, 0, 0), OUTSIDE);
    }
  }

  private static void views() {
    promise = 22;
    SmallWindows x = open(3);
    for (int h = 1; h <= 5; h++) {
      for (int w = 1; w <= 5; w++) due("views(" + h + ", " + w + ")", x.views(h, w), h * w > 12 ? NOT : 1 << h * w);
    }
    x.letter(1, 0);
    due("views(3, 4) of one letter", x.views(3, 4), 1);
    x.letter(2, 1);
    due("views(4, 3)", x.views(4, 3), 4096);
    for (int side : WRONG_SIDES) {
      due("views(" + side + ", 1)", x.views(side, 1), OUTSIDE);
      due("views(1, " + side + ")", x.views(1, side), OUTSIDE);
      due("views(5, " + side + ")", x.views(5, side), OUTSIDE);
    }
    due("views(1, 1) of a new one", new SmallWindows().views(1, 1), 0);
    x = taught(1, 2, 4, 5);
    due("views(1, 2)", x.views(1, 2), 2);
    x.letter(0, 1);
    due("views(1, 2) of one letter", x.views(1, 2), 1);
  }

  private static void tall() {
    promise = 23;
    BigInteger modulus = BigInteger.valueOf(1000000007L);
    int[] heights = {1, 2, 3, 5, 6, 64, 1000, 123456789, 999999999, 1000000000};
    for (int c = 2; c <= 3; c++) {
      SmallWindows x = open(c);
      for (int w = 1; w <= 3; w++) {
        for (int h : heights) {
          BigInteger exponent = BigInteger.valueOf((long) w * h);
          due("tall(" + w + ", " + h + ")", x.tall(w, h), BigInteger.valueOf(c).modPow(exponent, modulus).intValue());
        }
      }
      for (int w : new int[] {Integer.MIN_VALUE, -1, 0, 4, 5, Integer.MAX_VALUE}) due("tall(" + w + ", 1)", x.tall(w, 1), OUTSIDE);
      for (int h : new int[] {Integer.MIN_VALUE, -1, 0, 1000000001, Integer.MAX_VALUE}) due("tall(1, " + h + ")", x.tall(1, h), OUTSIDE);
    }
    // columns of 0 and 1 without 1 above 1: Fibonacci's numbers
    SmallWindows x = open(2);
    for (int block = 0; block < 256; block++) if (block >> 6 == 1 && (block >> 2 & 3) == 1) x.allow(block, false);
    long a = 1;
    long b = 2;
    for (int h = 1; h <= 100; h++) {
      due("tall(1, " + h + ")", x.tall(1, h), (int) b);
      long next = (a + b) % 1000000007L;
      a = b;
      b = next;
    }
    due("tall(2, 4)", x.tall(2, 4), 64);
  }

  /** Columns of three colours: 0 above 1 alone fits; 2 may come below 1, but not end. */
  private static SmallWindows deadEnd() {
    SmallWindows x = new SmallWindows();
    x.colours(3);
    x.desk(2, 1);
    x.paint(4);
    x.learn();
    x.allow(222, true);
    x.allow(123, true);
    x.allow(238, true);
    x.allow(187, true);
    return x;
  }

  private static void wrongColumns(String call, int... answers) {
    for (int answer : answers) due(call, answer, OUTSIDE);
  }

  private static void live() {
    promise = 24;
    SmallWindows x = open(3);
    due("live(1)", x.live(1), 3);
    due("live(2)", x.live(2), 9);
    due("live(3)", x.live(3), 27);
    wrongColumns("live", x.live(0), x.live(4), x.live(-1), x.live(Integer.MIN_VALUE), x.live(Integer.MAX_VALUE));
    due("live(1) of a new one", new SmallWindows().live(1), 0);
    due("live(1) of a dead end", deadEnd().live(1), 2);
    due("live(2) of a dead end", deadEnd().live(2), 0);
    due("live(1) of a column", taught(3, 1, 16).live(1), 2);
  }

  private static void endless() {
    promise = 25;
    SmallWindows x = open(2);
    for (int w = 1; w <= 3; w++) due("endless(" + w + ")", x.endless(w), 1);
    wrongColumns("endless", x.endless(0), x.endless(4), x.endless(-1), x.endless(Integer.MIN_VALUE), x.endless(Integer.MAX_VALUE));
    due("endless(1) of a new one", new SmallWindows().endless(1), 0);
    due("endless(1) of a dead end", deadEnd().endless(1), 0);
    due("endless(1) of 0 0 1", taught(3, 1, 16).endless(1), 1);
    due("endless(1) of 0 1", taught(2, 1, 4).endless(1), 0);
    due("endless(1) of 0", taught(1, 1, 0).endless(1), 0);
    due("endless(2) of 0 1 above 1 0, and back", taught(4, 2, 4 + 16 + 1024 + 4096).endless(2), 1);
  }

  /** Columns of three colours: 0 above 1 above 2 alone fits. */
  private static SmallWindows climb() {
    SmallWindows x = new SmallWindows();
    x.colours(3);
    x.desk(3, 1);
    x.paint(0 | 1 << 2 | 2 << 4);
    x.learn();
    return x;
  }

  private static void lowest() {
    promise = 26;
    SmallWindows x = open(2);
    for (int w = 1; w <= 3; w++) due("lowest(" + w + ")", x.lowest(w), 1);
    wrongColumns("lowest", x.lowest(0), x.lowest(4), x.lowest(-1), x.lowest(Integer.MIN_VALUE), x.lowest(Integer.MAX_VALUE));
    due("lowest(1) of a new one", new SmallWindows().lowest(1), NONE);
    due("lowest(1) of a dead end", deadEnd().lowest(1), 2);
    due("lowest(1) of 0 0 1", taught(3, 1, 16).lowest(1), 2);
    due("lowest(1) of 0 1 2", climb().lowest(1), 3);
    due("lowest(2) of 0 1 2", climb().lowest(2), NONE);
    due("live(1) of 0 1 2", climb().live(1), 3);
    due("endless(1) of 0 1 2", climb().endless(1), 0);
    due("tall(1, 3) of 0 1 2", climb().tall(1, 3), 1);
    due("tall(1, 4) of 0 1 2", climb().tall(1, 4), 0);
  }

  private static void walker() {
    promise = 27;
    SmallWindows x = new SmallWindows();
    x.paint(0);
    for (int n = 1; n <= 5; n++) {
      for (int state = 0; state < x.count(4); state++) x.act(state, 0, 4, 0);
      due("walk(0)", x.walk(0), 1);
      due("walker(" + n + ")", x.walker(n), 1);
      due("count(4)", x.count(4), n);
      due("walk(0)", x.walk(0), 0);
      due("act of the last state", x.act(n - 1, 0, 5, 0), 1);
      due("act of one state more", x.act(n, 0, 5, 0), UNKNOWN);
    }
    x.act(0, 0, 4, 0);
    for (int n : new int[] {Integer.MIN_VALUE, -1, 0, 6, Integer.MAX_VALUE}) due("walker(" + n + ")", x.walker(n), OUTSIDE);
    due("count(4)", x.count(4), 5);
    due("walk(0)", x.walk(0), 1);
  }

  private static void act() {
    promise = 28;
    SmallWindows x = new SmallWindows();
    x.walker(3);
    for (int state = 0; state < 3; state++) {
      for (int sees = 0; sees < 4; sees++) for (int act = 0; act < 6; act++) due("act", x.act(state, sees, act, 2 - state), 1);
    }
    int[] noStates = {Integer.MIN_VALUE, -1, 3, 4, 5, Integer.MAX_VALUE};
    for (int state : noStates) {
      due("act(" + state + ", 0, 0, 0)", x.act(state, 0, 0, 0), UNKNOWN);
      due("act(0, 0, 0, " + state + ")", x.act(0, 0, 0, state), UNKNOWN);
      due("act(0, 0, 4, " + state + ")", x.act(0, 0, 4, state), UNKNOWN);
      due("act(" + state + ", 4, 6, 0)", x.act(state, 4, 6, 0), UNKNOWN);
      due("act(0, 4, 6, " + state + ")", x.act(0, 4, 6, state), UNKNOWN);
    }
    for (int sees : new int[] {Integer.MIN_VALUE, -1, 4, Integer.MAX_VALUE}) due("act: sees " + sees, x.act(0, sees, 4, 0), OUTSIDE);
    for (int act : new int[] {Integer.MIN_VALUE, -1, 6, Integer.MAX_VALUE}) due("act: " + act, x.act(0, 0, act, 0), OUTSIDE);
    x.paint(0);
    due("walk(1): nothing changed", x.walk(1), 0);
    due("walk(0): nothing changed", x.walk(0), 0);
  }

  private static void ends(SmallWindows x, String name, int how, int steps, int state) {
    due("walk(0) " + name, x.walk(0), how);
    due("walk(1) " + name, x.walk(1), steps);
    due("walk(2) " + name, x.walk(2), state);
  }

  private static void walk() {
    promise = 29;
    SmallWindows x = new SmallWindows();
    x.desk(1, 2);
    for (int what = 0; what < 3; what++) due("walk(" + what + ") with gaps", x.walk(what), NOT);
    for (int what : new int[] {Integer.MIN_VALUE, -1, 3, Integer.MAX_VALUE}) due("walk(" + what + ")", x.walk(what), OUTSIDE);
    x.paint(0);
    ends(x, "leaves at once", 0, 0, 0);
    x.walker(3);
    x.act(0, 0, 0, 1);
    ends(x, "leaves where it has come", 0, 1, 1);
    x.act(1, 0, 2, 0);
    ends(x, "around to its beginning", 2, 2, 0);
    x.act(1, 0, 2, 2);
    x.act(2, 0, 0, 1);
    ends(x, "around to a later place", 2, 3, 1);
    x.act(2, 0, 4, 0);
    ends(x, "takes", 1, 2, 2);
    x.walker(2);
    x.act(0, 0, 3, 1);
    x.act(1, 3, 3, 0);
    ends(x, "out of the ring, above", 0, 2, 1);
    x.act(1, 3, 2, 1);
    ends(x, "out of the ring, left", 0, 3, 1);
    x.act(1, 3, 0, 1);
    ends(x, "out of the ring, right", 0, 4, 1);
    x.act(1, 3, 1, 1);
    ends(x, "back into the picture", 0, 2, 1);
    x.act(1, 0, 1, 1);
    ends(x, "down through it, and out below", 0, 4, 1);
    x.desk(5, 5);
    x.paint(0);
    ends(x, "down through five rows", 0, 8, 1);
    x.paint(1 << 20);
    x.act(1, 1, 4, 0);
    ends(x, "takes at cell 10", 1, 4, 1);
  }

  private static void walked() {
    promise = 30;
    SmallWindows x = open(2);
    due("walked(3, 3) of one that leaves", x.walked(3, 3), 0);
    x.act(0, 0, 4, 0);
    x.act(0, 1, 4, 0);
    due("walked(3, 3) of one that takes", x.walked(3, 3), 512);
    // to the right, until there is a 1
    x.act(0, 0, 0, 0);
    due("walked(1, 1)", x.walked(1, 1), 1);
    due("walked(2, 2)", x.walked(2, 2), 12);
    due("walked(3, 3)", x.walked(3, 3), 448);
    due("walked(4, 2)", x.walked(4, 2), 192);
    due("walked(1, 5)", x.walked(1, 5), 31);
    // down, until there is a 1
    x.act(0, 0, 1, 0);
    due("walked(3, 3)", x.walked(3, 3), 448);
    due("walked(5, 1)", x.walked(5, 1), 31);
    due("walked(2, 4)", x.walked(2, 4), 192);
    due("walked(2, 5)", x.walked(2, 5), NOT);
    due("walked(5, 2)", x.walked(5, 2), NOT);
    due("walked(5, 5)", x.walked(5, 5), NOT);
    for (int side : WRONG_SIDES) {
      due("walked(" + side + ", 5)", x.walked(side, 5), OUTSIDE);
      due("walked(5, " + side + ")", x.walked(5, side), OUTSIDE);
    }
    // along a column and back, for ever
    x.act(0, 1, 1, 0);
    x.act(0, 3, 3, 0);
    due("walked(3, 3) of one that is around", x.walked(3, 3), 0);
    x = open(3);
    for (int colour = 0; colour < 3; colour++) x.act(0, colour, 4, 0);
    due("walked(3, 3) of three", x.walked(3, 3), 19683);
    x.act(0, 0, 0, 0);
    x.act(0, 2, 5, 0);
    due("walked(2, 2) of three", x.walked(2, 2), 36);
    x = taught(1, 2, 4, 5);
    x.act(0, 0, 4, 0);
    due("walked(1, 2) of those that fit", x.walked(1, 2), 1);
    due("walked(1, 1) of those that fit", x.walked(1, 1), 0);
  }

  private static void count() {
    promise = 31;
    SmallWindows x = new SmallWindows();
    x.colours(3);
    x.desk(2, 5);
    x.cell(3, 0);
    x.walker(4);
    int[] want = {3, 2, 5, 9, 4};
    for (int what = 0; what < 5; what++) due("count(" + what + ")", x.count(what), want[what]);
    for (int what : new int[] {Integer.MIN_VALUE, -1, 5, Integer.MAX_VALUE}) due("count(" + what + ")", x.count(what), OUTSIDE);
  }
}
