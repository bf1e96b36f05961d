import java.util.Arrays;

/** Pictures of up to five by five cells that fit a rule on their blocks of two by two. */
public final class SmallWindows {
    public static final int NONE = -1, UNKNOWN = -2, OUTSIDE = -3, NOT = -4, SPENT = -6, MANY = 1000000001;

    private static final int GAP = -1, BORDER = 3;
    private static final int MOST_COLOURS = 3, MOST_SIDE = 5, MOST_CELLS = 25, MOST_ROWS = 243;
    private static final int BLOCKS = 256, TURNS = 4;
    private static final int LAST_PICTURE = 999999999, CLUE_CELLS = 12, CLUE_PICTURES = 300;
    private static final int VIEW_CELLS = 12, WALK_CELLS = 9, WALK_PICTURES = 19683;
    private static final int TALL_COLUMNS = 3, TALL_ROWS = 27, TALL_HEIGHT = 1000000000;
    private static final int MOST_STATES = 5, SIGHTS = 4, TAKE = 4, LEAVE = 5;
    private static final int LEFT = 0, TAKEN = 1, AROUND = 2;
    private static final long MODULUS = 1000000007L;

    private int colourCount;
    private final int[] letters = new int[MOST_COLOURS];
    private final Rule rule = new Rule();
    private final Sheet onDesk = new Sheet();
    private final Walker goer = new Walker();
    private final Rows rows = new Rows();
    private final Album album = new Album(rule, rows);
    private final Clues hints = new Clues();
    private final Views sights = new Views(album);
    private final Strip strip = new Strip(rule, rows);

    public SmallWindows() {
        beginAnew(2);
    }

    // ---- rules, pictures

    public int colours(int c) {
        if (c < 2 || c > MOST_COLOURS) {
            return OUTSIDE;
        }
        int before = colourCount;
        beginAnew(c);
        return before;
    }

    public int allow(int block, boolean is) {
        if (!isBlock(block)) {
            return OUTSIDE;
        }
        int before = rule.has(block) ? 1 : 0;
        rule.put(block, is);
        return before;
    }

    public int desk(int h, int w) {
        if (!isSize(h, w)) {
            return OUTSIDE;
        }
        onDesk.lay(h, w);
        return 1;
    }

    public int cell(int cell, int colour) {
        if (!onDesk.holds(cell) || colour != GAP && !isColour(colour)) {
            return UNKNOWN;
        }
        int before = onDesk.cells[cell];
        onDesk.cells[cell] = colour;
        return before;
    }

    public int paint(long row) {
        int size = onDesk.size();
        for (int i = 0; i < size; i++) {
            if (!isColour(partOf(row, i))) {
                return OUTSIDE;
            }
        }
        for (int i = 0; i < size; i++) {
            onDesk.cells[i] = partOf(row, i);
        }
        return 1;
    }

    public int learn() {
        if (onDesk.gaps() > 0) {
            return NOT;
        }
        int before = rule.size();
        for (int y = 0; y <= onDesk.h; y++) {
            for (int x = 0; x <= onDesk.w; x++) {
                rule.put(onDesk.block(y, x), true);
            }
        }
        return rule.size() - before;
    }

    public int wrong() {
        return onDesk.gaps() > 0 ? NOT : rule.firstWrong(onDesk);
    }

    public int blocks(int turn) {
        if (turn < -1 || turn >= TURNS) {
            return OUTSIDE;
        }
        return turn == -1 ? rule.size() : rule.open(turn);
    }

    public int close(int turn) {
        if (turn < 0 || turn >= TURNS) {
            return OUTSIDE;
        }
        int before = rule.size();
        rule.closeUnder(turn);
        return rule.size() - before;
    }

    // ---- counts

    public int many(int h, int w) {
        if (!isSize(h, w)) {
            return OUTSIDE;
        }
        openWhole(h, w);
        return capped(album.total(0));
    }

    public int picture(int h, int w, int i, int cell) {
        if (!isSize(h, w) || i < 0 || i > LAST_PICTURE || cell < 0 || cell >= h * w) {
            return OUTSIDE;
        }
        openWhole(h, w);
        return album.turnTo(i) ? album.page.cells[cell] : NONE;
    }

    public int rank() {
        if (onDesk.gaps() > 0) {
            return NOT;
        }
        if (rule.firstWrong(onDesk) != NONE) {
            return NONE;
        }
        openWhole(onDesk.h, onDesk.w);
        return capped(album.before(onDesk));
    }

    public int sizes() {
        int found = 0;
        for (int w = 1; w <= MOST_SIDE; w++) {
            // without wishes the lower rows of five are counted as a picture of fewer rows is
            openWhole(MOST_SIDE, w);
            for (int h = 1; h <= MOST_SIDE; h++) {
                if (album.total(MOST_SIDE - h) > 0) {
                    found |= 1 << (MOST_SIDE * (h - 1) + w - 1);
                }
            }
        }
        return found;
    }

    // ---- gaps

    public int endings() {
        openEndings();
        album.fill();
        return capped(album.total(0));
    }

    public int ending(int cell) {
        if (!onDesk.holds(cell)) {
            return UNKNOWN;
        }
        openEndings();
        return firstColour(cell);
    }

    public int sure(int cell) {
        if (!onDesk.holds(cell)) {
            return UNKNOWN;
        }
        openEndings();
        int colour = firstColour(cell);
        if (colour == NONE) {
            return NONE;
        }
        album.wishes[cell] &= ~(1 << colour);
        album.fill();
        return album.total(0) == 0 ? colour : NONE;
    }

    public int clues() {
        if (onDesk.gaps() > 0 || onDesk.size() > CLUE_CELLS || rule.firstWrong(onDesk) != NONE) {
            return NOT;
        }
        openWhole(onDesk.h, onDesk.w);
        long total = album.total(0);
        if (total > CLUE_PICTURES) {
            return SPENT;
        }
        hints.clear();
        boolean more = album.begin();
        for (int i = 0; i < total && more; i++) {
            hints.tellApart(onDesk, album.page);
            more = album.advance(onDesk.h - 1);
        }
        return hints.fewest(onDesk.size());
    }

    // ---- looks

    public int letter(int colour, int letter) {
        if (!isColour(colour)) {
            return UNKNOWN;
        }
        if (letter < 0 || letter > 1) {
            return OUTSIDE;
        }
        int before = letters[colour];
        letters[colour] = letter;
        return before;
    }

    public int looks(int h, int w, int look) {
        if (!isSize(h, w) || !isLook(look, h * w)) {
            return OUTSIDE;
        }
        openLook(h, w, look);
        album.fill();
        return capped(album.total(0));
    }

    public int look(int h, int w, int look, int cell) {
        if (!isSize(h, w) || !isLook(look, h * w) || cell < 0 || cell >= h * w) {
            return OUTSIDE;
        }
        openLook(h, w, look);
        return firstColour(cell);
    }

    public int views(int h, int w) {
        if (!isSize(h, w)) {
            return OUTSIDE;
        }
        if (h * w > VIEW_CELLS) {
            return NOT;
        }
        openWhole(h, w);
        return sights.unlike(letters);
    }

    // ---- tall pictures

    public int tall(int w, int h) {
        if (!isStrip(w) || h < 1 || h > TALL_HEIGHT) {
            return OUTSIDE;
        }
        strip.lay(colourCount, w);
        return strip.ofHeight(h);
    }

    public int live(int w) {
        if (!isStrip(w)) {
            return OUTSIDE;
        }
        strip.lay(colourCount, w);
        return Integer.bitCount(strip.used());
    }

    public int endless(int w) {
        if (!isStrip(w)) {
            return OUTSIDE;
        }
        strip.lay(colourCount, w);
        return strip.goesOn() ? 1 : 0;
    }

    public int lowest(int w) {
        if (!isStrip(w)) {
            return OUTSIDE;
        }
        strip.lay(colourCount, w);
        return strip.leastHeight();
    }

    // ---- walkers

    public int walker(int n) {
        if (n < 1 || n > MOST_STATES) {
            return OUTSIDE;
        }
        goer.become(n);
        return 1;
    }

    public int act(int state, int sees, int act, int then) {
        if (!goer.hasState(state) || !goer.hasState(then)) {
            return UNKNOWN;
        }
        if (sees < 0 || sees >= SIGHTS || act < 0 || act > LEAVE) {
            return OUTSIDE;
        }
        goer.teach(state, sees, act, then);
        return 1;
    }

    public int walk(int what) {
        if (what < 0 || what > 2) {
            return OUTSIDE;
        }
        if (onDesk.gaps() > 0) {
            return NOT;
        }
        goer.go(onDesk);
        if (what == 0) {
            return goer.end;
        }
        return what == 1 ? goer.steps : goer.state;
    }

    public int walked(int h, int w) {
        if (!isSize(h, w)) {
            return OUTSIDE;
        }
        if (h * w > WALK_CELLS) {
            return NOT;
        }
        openWhole(h, w);
        long taken = 0;
        boolean more = album.begin();
        for (int i = 0; i < WALK_PICTURES && more; i++) {
            goer.go(album.page);
            // pictures that differ only in rows it has not seen end as this one did
            if (goer.end == TAKEN) {
                taken += album.alikeDownTo(goer.lowestRow);
            }
            more = album.advance(goer.lowestRow);
        }
        return capped(taken);
    }

    public int count(int what) {
        switch (what) {
            case 0:
                return colourCount;
            case 1:
                return onDesk.h;
            case 2:
                return onDesk.w;
            case 3:
                return onDesk.gaps();
            case 4:
                return goer.states;
            default:
                return OUTSIDE;
        }
    }

    // ---- what the calls share

    private void beginAnew(int c) {
        colourCount = c;
        letters[0] = 0;
        letters[1] = 1;
        letters[2] = 0;
        rule.clear();
        onDesk.lay(1, 1);
        goer.become(1);
    }

    private static boolean isSize(int h, int w) {
        return h >= 1 && h <= MOST_SIDE && w >= 1 && w <= MOST_SIDE;
    }

    private static boolean isStrip(int w) {
        return w >= 1 && w <= TALL_COLUMNS;
    }

    private static boolean isLook(int look, int cells) {
        return look >= 0 && look >> cells == 0;
    }

    private boolean isColour(int colour) {
        return colour >= 0 && colour < colourCount;
    }

    private boolean isBlock(int block) {
        if (block < 0 || block >= BLOCKS) {
            return false;
        }
        for (int i = 0; i < 4; i++) {
            int part = partOf(block, i);
            if (part != BORDER && !isColour(part)) {
                return false;
            }
        }
        return true;
    }

    private static int partOf(long parts, int i) {
        return (int) (parts >> 2 * i) & 3;
    }

    private static int capped(long number) {
        return (int) Math.min(number, MANY);
    }

    private void openWhole(int h, int w) {
        album.open(colourCount, h, w);
        album.fill();
    }

    private void openEndings() {
        album.open(colourCount, onDesk.h, onDesk.w);
        int size = onDesk.size();
        for (int i = 0; i < size; i++) {
            if (onDesk.cells[i] != GAP) {
                album.wishes[i] = 1 << onDesk.cells[i];
            }
        }
    }

    private void openLook(int h, int w, int look) {
        album.open(colourCount, h, w);
        for (int i = 0; i < h * w; i++) {
            album.wishes[i] = coloursOf(look >> i & 1);
        }
    }

    private int coloursOf(int letter) {
        int found = 0;
        for (int colour = 0; colour < colourCount; colour++) {
            if (letters[colour] == letter) {
                found |= 1 << colour;
            }
        }
        return found;
    }

    private int firstColour(int cell) {
        album.fill();
        return album.begin() ? album.page.cells[cell] : NONE;
    }

    /** The blocks that are allowed. */
    private static final class Rule {
        /** For each pair of upper parts the pairs of lower parts that may stand below it, by bits. */
        private final int[] lower = new int[16];

        void clear() {
            Arrays.fill(lower, 0);
        }

        boolean has(int block) {
            return (lower[block >> 4 & 15] >> (block & 15) & 1) != 0;
        }

        void put(int block, boolean is) {
            int bit = 1 << (block & 15);
            if (is) {
                lower[block >> 4 & 15] |= bit;
            } else {
                lower[block >> 4 & 15] &= ~bit;
            }
        }

        int size() {
            int sum = 0;
            for (int pairs : lower) {
                sum += Integer.bitCount(pairs);
            }
            return sum;
        }

        /** Which parts may stand lower right, by bits, where the three others are known. */
        int corners(int upperLeft, int upperRight, int lowerLeft) {
            return lower[(upperLeft & 3) << 2 | upperRight & 3] >> ((lowerLeft & 3) << 2) & 15;
        }

        /** Whether all windows between two rows of w cells are allowed; the rows have their ring at both ends. */
        boolean joins(int upper, int under, int w) {
            for (int shift = 0; shift <= 2 * w; shift += 2) {
                if ((lower[upper >> shift & 15] >> (under >> shift & 15) & 1) == 0) {
                    return false;
                }
            }
            return true;
        }

        int firstWrong(Sheet sheet) {
            for (int y = 0; y <= sheet.h; y++) {
                for (int x = 0; x <= sheet.w; x++) {
                    if (!has(sheet.block(y, x))) {
                        return (sheet.w + 1) * y + x;
                    }
                }
            }
            return NONE;
        }

        int open(int turn) {
            int sum = 0;
            for (int block = 0; block < BLOCKS; block++) {
                if (has(block) && !has(turned(block, turn))) {
                    sum++;
                }
            }
            return sum;
        }

        void closeUnder(int turn) {
            for (int block = 0; block < BLOCKS; block++) {
                if (has(block)) {
                    // four turns of any kind come back to the block itself
                    int next = block;
                    for (int i = 0; i < 4; i++) {
                        next = turned(next, turn);
                        put(next, true);
                    }
                }
            }
        }

        private static int turned(int block, int turn) {
            int a = block >> 6 & 3;
            int b = block >> 4 & 3;
            int c = block >> 2 & 3;
            int d = block & 3;
            switch (turn) {
                case 0:
                    return joined(c, a, d, b);
                case 1:
                    return joined(b, a, d, c);
                case 2:
                    return joined(c, d, a, b);
                default:
                    return joined(changed(a), changed(b), changed(c), changed(d));
            }
        }

        private static int joined(int a, int b, int c, int d) {
            return a << 6 | b << 4 | c << 2 | d;
        }

        private static int changed(int part) {
            return part < 2 ? 1 - part : part;
        }
    }

    /** A picture, perhaps with gaps. */
    private static final class Sheet {
        int h = 1;
        int w = 1;
        final int[] cells = new int[MOST_CELLS];

        void lay(int rowCount, int columns) {
            h = rowCount;
            w = columns;
            Arrays.fill(cells, GAP);
        }

        int size() {
            return h * w;
        }

        boolean holds(int cell) {
            return cell >= 0 && cell < size();
        }

        int gaps() {
            int sum = 0;
            int size = size();
            for (int i = 0; i < size; i++) {
                if (cells[i] == GAP) {
                    sum++;
                }
            }
            return sum;
        }

        /** What lies at a place of picture or ring. */
        int at(int y, int x) {
            return y >= 0 && y < h && x >= 0 && x < w ? cells[w * y + x] : BORDER;
        }

        /** The block of the window whose lower right part lies there; no gap may be in it. */
        int block(int y, int x) {
            return at(y - 1, x - 1) << 6 | at(y - 1, x) << 4 | at(y, x - 1) << 2 | at(y, x);
        }
    }

    /**
     * All rows of one width, by number: the colours of their cells are its digits, the first cell the
     * highest, so that the order of the numbers is the order of the pictures.
     */
    private static final class Rows {
        int c = 2;
        int w = 1;
        int size = 0;
        /** A row of ring alone, in the form of the framed rows. */
        int ring = 0;
        /** Each row's parts, two bits each, with a part of the ring at both ends. */
        final int[] framed = new int[MOST_ROWS];
        /** The powers of the number of colours: a cell's weight in a row's number. */
        final int[] power = new int[MOST_SIDE + 2];

        void list(int colours, int columns) {
            c = colours;
            w = columns;
            power[0] = 1;
            for (int i = 1; i < power.length; i++) {
                power[i] = power[i - 1] * c;
            }
            size = 1;
            framed[0] = BORDER;
            for (int x = 0; x < w; x++) {
                addCell();
            }
            for (int r = 0; r < size; r++) {
                framed[r] = framed[r] << 2 | BORDER;
            }
            ring = (1 << 2 * (w + 2)) - 1;
        }

        /** From the last row on, since a row's longer forms come behind it or into its own place. */
        private void addCell() {
            for (int r = size - 1; r >= 0; r--) {
                int shorter = framed[r];
                for (int colour = 0; colour < c; colour++) {
                    framed[r * c + colour] = shorter << 2 | colour;
                }
            }
            size *= c;
        }

        int colour(int r, int x) {
            return framed[r] >> 2 * (w - x) & 3;
        }

        int numberOf(Sheet sheet, int y) {
            int number = 0;
            for (int x = 0; x < w; x++) {
                number = number * c + sheet.at(y, x);
            }
            return number;
        }
    }

    /** The pictures of a size that fit and have in each cell a colour that is wished there, in order. */
    private static final class Album {
        final Rows rows;
        private final Rule rule;
        /** Colours by bits, for each cell. */
        final int[] wishes = new int[MOST_CELLS];
        /** For row y and what stands in it: how many ways there are to fill the rows below (0: not wished). */
        private final long[] ways = new long[MOST_SIDE * MOST_ROWS];
        /**
         * The ways below a broken line, by its colours: the lower row's cells before x, then the upper
         * row's from x - 1 on, numbered as rows are. Going left cell by cell takes far fewer steps than
         * trying each row below each other.
         */
        private final long[] front = new long[MOST_COLOURS * MOST_ROWS];
        /** The numbers of the rows of the picture at which the album is open; NONE: before the first. */
        private final int[] at = new int[MOST_SIDE];
        final Sheet page = new Sheet();

        Album(Rule rule, Rows rows) {
            this.rule = rule;
            this.rows = rows;
        }

        void open(int colours, int h, int w) {
            rows.list(colours, w);
            page.lay(h, w);
            Arrays.fill(wishes, (1 << colours) - 1);
        }

        void fill() {
            int last = page.h - 1;
            for (int r = 0; r < rows.size; r++) {
                boolean ends = isWished(last, r) && rule.joins(rows.framed[r], rows.ring, rows.w);
                ways[last * MOST_ROWS + r] = ends ? 1 : 0;
            }
            for (int y = last - 1; y >= 0; y--) {
                closeRight(y + 1);
                for (int x = rows.w - 1; x > 0; x--) {
                    moveLeft(x);
                }
                openLeft(y);
            }
        }

        private boolean isWished(int y, int r) {
            for (int x = 0; x < rows.w; x++) {
                if ((wishes[rows.w * y + x] >> rows.colour(r, x) & 1) == 0) {
                    return false;
                }
            }
            return true;
        }

        /** The front that has all cells of row y, and the last one of the row above. */
        private void closeRight(int y) {
            int c = rows.c;
            for (int r = 0; r < rows.size; r++) {
                long number = ways[y * MOST_ROWS + r];
                int lowerLeft = rows.colour(r, rows.w - 1);
                for (int above = 0; above < c; above++) {
                    boolean fits = (rule.corners(above, BORDER, lowerLeft) >> BORDER & 1) != 0;
                    front[r * c + above] = fits ? number : 0;
                }
            }
        }

        /** Where the front has the lower row's cell x, it gets the upper row's cell x - 1. */
        private void moveLeft(int x) {
            int c = rows.c;
            int weight = rows.power[rows.w - x];
            int rest = rows.power[rows.w - x - 1];
            int whole = weight * c * c;
            for (int left = 0; left < c; left++) {
                for (int above = 0; above < c; above++) {
                    int after0 = rule.corners(0, above, left);
                    int after1 = rule.corners(1, above, left);
                    int after2 = rule.corners(2, above, left);
                    int from = left * weight * c + above * rest;
                    for (int high = 0; high < rows.power[x - 1]; high++) {
                        for (int low = 0; low < rest; low++) {
                            mix(high * whole + from + low, weight, after0, after1, after2);
                        }
                    }
                }
            }
        }

        private void mix(int first, int weight, int after0, int after1, int after2) {
            boolean three = rows.c == 3;
            long ways0 = front[first];
            long ways1 = front[first + weight];
            long ways2 = three ? front[first + 2 * weight] : 0;
            if ((ways0 | ways1 | ways2) == 0) {
                return;
            }
            front[first] = sum(after0, ways0, ways1, ways2);
            front[first + weight] = sum(after1, ways0, ways1, ways2);
            if (three) {
                front[first + 2 * weight] = sum(after2, ways0, ways1, ways2);
            }
        }

        private static long sum(int colours, long ways0, long ways1, long ways2) {
            long sum = (colours & 1) != 0 ? ways0 : 0;
            sum += (colours & 2) != 0 ? ways1 : 0;
            return sum + ((colours & 4) != 0 ? ways2 : 0);
        }

        /** From the front that has the first cell of row y + 1 and all of row y. */
        private void openLeft(int y) {
            for (int r = 0; r < rows.size; r++) {
                long number = 0;
                if (isWished(y, r)) {
                    int after = rule.corners(BORDER, rows.colour(r, 0), BORDER);
                    for (int colour = 0; colour < rows.c; colour++) {
                        if ((after >> colour & 1) != 0) {
                            number += front[colour * rows.size + r];
                        }
                    }
                }
                ways[y * MOST_ROWS + r] = number;
            }
        }

        /** How many pictures there are whose first row is row y of the page's size. */
        long total(int y) {
            long sum = 0;
            for (int r = 0; r < rows.size; r++) {
                sum += waysUnder(rows.ring, y, r);
            }
            return sum;
        }

        long waysUnder(int upper, int y, int r) {
            long number = ways[y * MOST_ROWS + r];
            return number != 0 && rule.joins(upper, rows.framed[r], rows.w) ? number : 0;
        }

        /** What stands above row y of the page. */
        private int above(int y) {
            return y == 0 || at[y - 1] == NONE ? rows.ring : rows.framed[at[y - 1]];
        }

        private void show(int y, int r) {
            at[y] = r;
            for (int x = 0; x < rows.w; x++) {
                page.cells[rows.w * y + x] = rows.colour(r, x);
            }
        }

        /** Opens the album at picture i: whether there is one. */
        boolean turnTo(long i) {
            long left = i;
            for (int y = 0; y < page.h; y++) {
                int upper = above(y);
                boolean found = false;
                for (int r = 0; r < rows.size && !found; r++) {
                    long number = waysUnder(upper, y, r);
                    found = left < number;
                    if (found) {
                        show(y, r);
                    } else {
                        left -= number;
                    }
                }
                if (!found) {
                    return false;
                }
            }
            return true;
        }

        /** How many pictures come before one that is of the page's size, and fits. */
        long before(Sheet sheet) {
            long sum = 0;
            int upper = rows.ring;
            for (int y = 0; y < page.h; y++) {
                int own = rows.numberOf(sheet, y);
                for (int r = 0; r < own; r++) {
                    sum += waysUnder(upper, y, r);
                }
                upper = rows.framed[own];
            }
            return sum;
        }

        /** Opens the album at the first picture: whether there is one. */
        boolean begin() {
            at[0] = NONE;
            return advance(0);
        }

        /** Goes on to the next picture that is unlike in its rows up to y: whether there is one. */
        boolean advance(int from) {
            for (int below = from + 1; below < page.h; below++) {
                at[below] = NONE;
            }
            int y = from;
            // rows have ways below them, so it goes up at most once, and then down
            for (int i = 0; i < 2 * MOST_SIDE && y >= 0 && y < page.h; i++) {
                int r = nextRow(y);
                if (r == NONE) {
                    at[y] = NONE;
                    y--;
                } else {
                    show(y, r);
                    y++;
                }
            }
            return y == page.h;
        }

        private int nextRow(int y) {
            int upper = above(y);
            for (int r = at[y] + 1; r < rows.size; r++) {
                if (waysUnder(upper, y, r) != 0) {
                    return r;
                }
            }
            return NONE;
        }

        /** How many pictures have rows 0 to y as the page has. */
        long alikeDownTo(int y) {
            return at[y] == NONE ? 0 : ways[y * MOST_ROWS + at[y]];
        }
    }

    /** The fewest cells that tell a picture from all others. */
    private static final class Clues {
        /** For each other picture the cells in which it is unlike, by bits. */
        private final int[] unlike = new int[CLUE_PICTURES];
        private int size = 0;

        void clear() {
            size = 0;
        }

        void tellApart(Sheet own, Sheet other) {
            int bits = 0;
            int cellCount = own.size();
            for (int i = 0; i < cellCount; i++) {
                if (own.cells[i] != other.cells[i]) {
                    bits |= 1 << i;
                }
            }
            if (bits != 0 && size < CLUE_PICTURES) {
                unlike[size] = bits;
                size++;
            }
        }

        int fewest(int cellCount) {
            int best = (1 << cellCount) - 1;
            for (int set = 0; set < 1 << cellCount; set++) {
                if (Integer.bitCount(set) < Integer.bitCount(best) && tells(set)) {
                    best = set;
                }
            }
            return best;
        }

        private boolean tells(int set) {
            for (int i = 0; i < size; i++) {
                if ((set & unlike[i]) == 0) {
                    return false;
                }
            }
            return true;
        }
    }

    /**
     * Counts unlike looks: it goes over the looks row by row, and keeps for the look so far all rows of
     * colours that may stand last in it. So it never goes over the pictures, which are far more.
     */
    private static final class Views {
        private static final int STEPS = 1000000;

        private final Album album;
        private final Rows rows;
        /** Each row's letters, by bits. */
        private final int[] lookOf = new int[MOST_ROWS];
        /** All rows, those that look alike side by side. */
        private final int[] byLook = new int[MOST_ROWS];
        /** For each level the rows that may stand there, in that order; of the last level none are kept. */
        private final int[] kept = new int[MOST_ROWS];
        /** For each level: where its rows end, and where those of the look now taken begin and end. */
        private final int[] end = new int[MOST_SIDE];
        private final int[] first = new int[MOST_SIDE];
        private final int[] next = new int[MOST_SIDE];

        Views(Album album) {
            this.album = album;
            this.rows = album.rows;
        }

        /** For the pictures of an album that is filled and without wishes. */
        int unlike(int[] letters) {
            sortRows(letters);
            int last = album.page.h - 1;
            if (last == 0) {
                return reach(0);
            }
            int sum = 0;
            int y = 0;
            reach(0);
            for (int i = 0; i < STEPS && y >= 0; i++) {
                if (!takeLook(y)) {
                    y--;
                } else if (y + 1 == last) {
                    sum += reach(last);
                } else {
                    y++;
                    reach(y);
                }
            }
            return sum;
        }

        private void sortRows(int[] letters) {
            for (int r = 0; r < rows.size; r++) {
                int bits = 0;
                for (int x = 0; x < rows.w; x++) {
                    bits = bits << 1 | letters[rows.colour(r, x)];
                }
                lookOf[r] = bits;
            }
            int n = 0;
            for (int look = 0; look < 1 << rows.w; look++) {
                for (int r = 0; r < rows.size; r++) {
                    if (lookOf[r] == look) {
                        byLook[n] = r;
                        n++;
                    }
                }
            }
        }

        /** Finds the rows that may stand at a level below the look taken so far: how many looks they have. */
        private int reach(int y) {
            boolean keep = y < album.page.h - 1;
            int from = y * rows.size;
            int n = 0;
            int seen = 0;
            for (int i = 0; i < rows.size; i++) {
                int r = byLook[i];
                int bit = 1 << lookOf[r];
                // at the last level one row of a look is enough
                if ((keep || (seen & bit) == 0) && mayStand(y, r)) {
                    seen |= bit;
                    if (keep && from + n < MOST_ROWS) {
                        kept[from + n] = r;
                        n++;
                    }
                }
            }
            end[y] = from + n;
            next[y] = from;
            return Integer.bitCount(seen);
        }

        private boolean mayStand(int y, int r) {
            if (y == 0) {
                return album.waysUnder(rows.ring, y, r) != 0;
            }
            for (int i = first[y - 1]; i < next[y - 1]; i++) {
                if (album.waysUnder(rows.framed[kept[i]], y, r) != 0) {
                    return true;
                }
            }
            return false;
        }

        /** Takes the next look of a level: whether there is one. */
        private boolean takeLook(int y) {
            if (next[y] >= end[y]) {
                return false;
            }
            int i = next[y];
            first[y] = i;
            int look = lookOf[kept[i]];
            while (i < end[y] && lookOf[kept[i]] == look) {
                i++;
            }
            next[y] = i;
            return true;
        }
    }

    /** Pictures of few columns and any height; sets of rows are told by bits. */
    private static final class Strip {
        private final Rule rule;
        private final Rows rows;
        /** For each row the rows that may stand below it. */
        private final int[] below = new int[TALL_ROWS];
        /** The rows that may stand first, and those that may stand last. */
        private int tops = 0;
        private int bottoms = 0;
        private final int[] chosen = new int[TALL_ROWS];
        private long[] table = new long[TALL_ROWS * TALL_ROWS];
        private long[] square = new long[TALL_ROWS * TALL_ROWS];
        private long[] line = new long[TALL_ROWS];
        private long[] pushed = new long[TALL_ROWS];

        Strip(Rule rule, Rows rows) {
            this.rule = rule;
            this.rows = rows;
        }

        void lay(int colours, int w) {
            rows.list(colours, w);
            tops = 0;
            bottoms = 0;
            for (int r = 0; r < rows.size; r++) {
                int row = rows.framed[r];
                tops |= bit(rows.ring, row, r);
                bottoms |= bit(row, rows.ring, r);
                below[r] = 0;
                for (int under = 0; under < rows.size; under++) {
                    below[r] |= bit(row, rows.framed[under], under);
                }
            }
        }

        private int bit(int upper, int under, int r) {
            return rule.joins(upper, under, rows.w) ? 1 << r : 0;
        }

        private int after(int set) {
            int found = 0;
            for (int r = 0; r < rows.size; r++) {
                if ((set >> r & 1) != 0) {
                    found |= below[r];
                }
            }
            return found;
        }

        private int before(int set) {
            int found = 0;
            for (int r = 0; r < rows.size; r++) {
                if ((below[r] & set) != 0) {
                    found |= 1 << r;
                }
            }
            return found;
        }

        private int reached() {
            int set = tops;
            for (int i = 0; i < rows.size; i++) {
                set |= after(set);
            }
            return set;
        }

        private int closing() {
            int set = bottoms;
            for (int i = 0; i < rows.size; i++) {
                set |= before(set);
            }
            return set;
        }

        /** The rows that are live. */
        int used() {
            return reached() & closing();
        }

        /** A picture that is higher than there are rows has one twice, and what lies between goes on without end. */
        boolean goesOn() {
            int used = used();
            int set = tops & used;
            for (int i = 0; i < rows.size; i++) {
                set = after(set) & used;
            }
            return set != 0;
        }

        int leastHeight() {
            int set = tops;
            for (int height = 1; height <= rows.size; height++) {
                if ((set & bottoms) != 0) {
                    return height;
                }
                set = after(set);
            }
            return NONE;
        }

        int ofHeight(int h) {
            int n = choose();
            for (int left = h - 1; left > 0; left >>= 1) {
                if ((left & 1) != 0) {
                    push(n);
                }
                if (left > 1) {
                    squareTable(n);
                }
            }
            long sum = 0;
            for (int i = 0; i < n; i++) {
                if ((bottoms >> chosen[i] & 1) != 0) {
                    sum += line[i];
                }
            }
            return (int) (sum % MODULUS);
        }

        /** Sets the table for live rows alone, since no others stand in a picture: how many there are. */
        private int choose() {
            int used = used();
            int n = 0;
            for (int r = 0; r < rows.size; r++) {
                if ((used >> r & 1) != 0) {
                    chosen[n] = r;
                    n++;
                }
            }
            for (int i = 0; i < n; i++) {
                line[i] = tops >> chosen[i] & 1;
                for (int j = 0; j < n; j++) {
                    table[i * n + j] = below[chosen[i]] >> chosen[j] & 1;
                }
            }
            return n;
        }

        private void push(int n) {
            for (int j = 0; j < n; j++) {
                long sum = 0;
                for (int i = 0; i < n; i++) {
                    sum = (sum + line[i] * table[i * n + j]) % MODULUS;
                }
                pushed[j] = sum;
            }
            long[] old = line;
            line = pushed;
            pushed = old;
        }

        private void squareTable(int n) {
            for (int i = 0; i < n * n; i++) {
                square[i] = 0;
            }
            for (int i = 0; i < n; i++) {
                for (int k = 0; k < n; k++) {
                    long factor = table[i * n + k];
                    if (factor != 0) {
                        addRow(i * n, factor, k * n, n);
                    }
                }
            }
            long[] old = table;
            table = square;
            square = old;
        }

        private void addRow(int to, long factor, int from, int n) {
            for (int j = 0; j < n; j++) {
                square[to + j] = (square[to + j] + factor * table[from + j]) % MODULUS;
            }
        }
    }

    /** The walker, and how its last walk went. */
    private static final class Walker {
        private static final int PLACES = (MOST_SIDE + 2) * (MOST_SIDE + 2);

        int states = 1;
        private final int[] acts = new int[MOST_STATES * SIGHTS];
        private final int[] thens = new int[MOST_STATES * SIGHTS];
        /** The last walk that came in a state to a place: so nothing needs to be wiped between walks. */
        private final int[] been = new int[PLACES * MOST_STATES];
        private int walks = 0;
        private int x = 0;
        private int y = 0;
        int end = LEFT;
        int steps = 0;
        int state = 0;
        /** The lowest row of the picture in which it has seen a cell. */
        int lowestRow = 0;

        void become(int n) {
            states = n;
            Arrays.fill(acts, LEAVE);
            Arrays.fill(thens, 0);
        }

        boolean hasState(int number) {
            return number >= 0 && number < states;
        }

        void teach(int number, int sees, int act, int then) {
            acts[number * SIGHTS + sees] = act;
            thens[number * SIGHTS + sees] = then;
        }

        /** Over a picture without gaps. */
        void go(Sheet sheet) {
            walks++;
            steps = 0;
            state = 0;
            x = 0;
            y = 0;
            lowestRow = 0;
            boolean goes = true;
            for (int i = 0; i <= been.length && goes; i++) {
                goes = isNewHere(sheet) && moves(sheet);
            }
        }

        private boolean isNewHere(Sheet sheet) {
            int place = (y + 1) * (sheet.w + 2) + x + 1;
            int here = place * MOST_STATES + state;
            if (been[here] == walks) {
                end = AROUND;
                return false;
            }
            been[here] = walks;
            return true;
        }

        private boolean moves(Sheet sheet) {
            if (y > lowestRow && y < sheet.h) {
                lowestRow = y;
            }
            int choice = state * SIGHTS + (sheet.at(y, x) & 3);
            int act = acts[choice];
            if (act >= TAKE) {
                end = act == TAKE ? TAKEN : LEFT;
                return false;
            }
            steps++;
            x += act == 0 ? 1 : act == 2 ? -1 : 0;
            y += act == 1 ? 1 : act == 3 ? -1 : 0;
            if (x < -1 || x > sheet.w || y < -1 || y > sheet.h) {
                end = LEFT;
                return false;
            }
            state = thens[choice];
            return true;
        }
    }
}
