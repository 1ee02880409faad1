/**
 * Slippers are set out for him by the opposition: a gallant civil war that leaves off at nine,
 * whereupon each gentleman is let through the lines to a batman of the other side.
 * What each call answers is told by the document, ../shared/DOC.md, promise by promise.
 */
public final class SlipperTruce {
    public static final int NONE = -1;

    private static final int MEN = 12;
    private static final int MOST_SKILL = 9;
    private static final int MOST = 99;
    private static final int LAST_DAY = 9999;
    private static final int MOST_DAYS = 60;
    private static final int TEXT_LINES = 16;
    private static final int TAPE = 400;
    private static final int BOOK_LINES = 150;
    private static final int KEPT = 6;

    /** Each keyword ends with a blank; its number is its place in this row. */
    private static final String KEYWORDS = "presses rests reads when or and not skill sleep plan hole care wear line side done day on march sole new truce officer batman needs ";
    private static final int PRESSES = 0;
    private static final int RESTS = 1;
    private static final int READS = 2;
    private static final int WHEN = 3;
    private static final int OR = 4;
    private static final int AND = 5;
    private static final int NOT = 6;
    private static final int SKILL = 7;
    private static final int SLEEP = 8;
    private static final int PLAN = 9;
    private static final int HOLE = 10;
    private static final int CARE = 11;
    private static final int WEAR = 12;
    private static final int LINE = 13;
    private static final int SIDE = 14;
    private static final int DONE = 15;
    private static final int DAY = 16;
    private static final int ON = 17;
    private static final int MARCH = 18;
    private static final int SOLE = 19;
    private static final int NEW = 20;
    private static final int TRUCE = 21;
    private static final int OFFICER = 22;
    private static final int BATMAN = 23;
    private static final int NEEDS = 24;

    private static final int CAME_ON = 0;
    private static final int GIVEN_UP = 1;
    private static final int COULD_NOT = 2;
    private static final int CARRIED_OUT = 3;
    private static final int MIND_READ = 4;
    private static final int VICTORY = 5;

    private final War now = new War();
    private final War kept = new War();
    private boolean imaged = false;
    private final Front dream = new Front();
    private final Past past = new Past();
    private final Reader reader = new Reader();

    public SlipperTruce() {
    }

    // ---- what is told of the war ----

    public int state(int v) {
        int was = now.front.draws;
        now.front.draws = v;
        past.forget();
        return was;
    }

    public int officer(int side, int skill) {
        if (side < 0 || side > 1 || skill < 0 || skill > MOST_SKILL) {
            return NONE;
        }
        int number = now.front.addOfficer(side, skill);
        if (number != NONE) {
            past.forget();
        }
        return number;
    }

    public int batman(int side, int care) {
        if (side < 0 || side > 1 || care < 0 || care > MOST_SKILL) {
            return NONE;
        }
        int number = now.front.addBatman(side, care);
        if (number != NONE) {
            past.forget();
        }
        return number;
    }

    public boolean set(int what, int who, int v) {
        boolean told;
        if (what >= 0 && what <= 2) {
            told = now.front.putOfficer(what, who, v);
        } else if (what == 3 || what == 4) {
            told = now.front.putBatman(what, who, v);
        } else {
            told = what == 5 && now.front.putLine(v);
        }
        if (told) {
            past.forget();
        }
        return told;
    }

    public boolean act(int what, int who, int v) {
        if (!now.canAct(what, who, v)) {
            return false;
        }
        past.keep(now.front, now.book.rows);
        now.perform(what, who, v);
        return true;
    }

    public int days(int n) {
        if (n < 1 || n > MOST_DAYS || now.front.day + n > LAST_DAY) {
            return NONE;
        }
        int carried = 0;
        for (int i = 0; i < n; i++) {
            past.keep(now.front, now.book.rows);
            carried += now.passDay(now.front, false);
        }
        return carried;
    }

    // ---- the tape and its texts ----

    public int feed(int a, int b, int c, int d, int e) {
        if (reader.length + 20 > TAPE) {
            return NONE;
        }
        reader.put(a);
        reader.put(b);
        reader.put(c);
        reader.put(d);
        reader.put(e);
        return reader.length;
    }

    public boolean end(int n) {
        if (n < 0 || n > reader.length) {
            return false;
        }
        reader.length = n;
        return true;
    }

    public int text(int k) {
        reader.cut();
        int lines = NONE;
        switch (k) {
            case 0:
                if (reader.readLaw()) {
                    now.law.copyFrom(reader.law);
                    lines = now.law.lines.rows;
                }
                break;
            case 1:
                if (reader.readOrders(now.front)) {
                    lines = tellRows(now.orders);
                    past.forget();
                }
                break;
            case 2:
                if (reader.readCouples(now.front, true)) {
                    lines = tellRows(now.service);
                    past.forget();
                }
                break;
            case 3:
                if (reader.readCouples(now.front, false)) {
                    lines = tellRows(now.needs);
                }
                break;
            default:
                break;
        }
        reader.length = 0;
        return lines;
    }

    private int tellRows(Table told) {
        told.copyFrom(reader.rows);
        return told.rows;
    }

    public int fault(int what) {
        if (what == 0) {
            return reader.fault;
        }
        return what == 1 ? reader.faultPlace : NONE;
    }

    // ---- what is asked of the war ----

    public int of(int officer, int what) {
        Front front = now.front;
        if (!front.hasOfficer(officer)) {
            return NONE - 1;
        }
        switch (what) {
            case 0:
                return front.side[officer];
            case 1:
                return front.skill[officer];
            case 2:
                return front.sleep[officer];
            case 3:
                return front.plan[officer];
            case 4:
                return front.read[officer];
            case 5:
                return front.hole[officer];
            case 6:
                return front.done[officer];
            case 7:
                return now.batmanOf(officer);
            case 8:
                return now.needed(officer);
            case 9:
                return now.asks(front, officer, PRESSES);
            case 10:
                return now.asks(front, officer, RESTS);
            case 11:
                return now.asks(front, officer, READS);
            case 12:
                return !front.mustGiveUp(officer) && now.hasHisNeeds(front, officer) ? 1 : 0;
            default:
                return NONE - 1;
        }
    }

    public int who(int batman, int what) {
        if (!now.front.hasBatman(batman)) {
            return NONE;
        }
        switch (what) {
            case 0:
                return now.front.batSide[batman];
            case 1:
                return now.front.care[batman];
            case 2:
                return now.front.wear[batman];
            case 3:
                return now.servedBy(batman);
            default:
                return NONE;
        }
    }

    public int book(int i, int what) {
        return now.book.at(i, what);
    }

    public int look(int what) {
        switch (what) {
            case 0:
                return now.front.officers;
            case 1:
                return now.front.batmen;
            case 2:
                return now.front.line;
            case 3:
                return now.front.won;
            case 4:
                return now.front.whoIsRead();
            case 5:
                return now.front.day;
            case 6:
                return now.book.rows;
            case 7:
                return now.front.draws;
            case 8:
                return now.law.lines.rows;
            case 9:
                return now.orders.rows;
            case 10:
                return now.service.rows;
            case 11:
                return now.needs.rows;
            case 12:
                return past.count;
            default:
                return NONE - 99999;
        }
    }

    // ---- in thought: the war ----

    public int goes(int n, int what) {
        if (n < 1 || n > MOST_DAYS || what < 0 || what > 3) {
            return NONE - 999;
        }
        dream.copyFrom(now.front);
        for (int i = 0; i < n; i++) {
            now.passDay(dream, true);
        }
        switch (what) {
            case 0:
                return dream.line;
            case 1:
                return dream.total(dream.done);
            case 2:
                return dream.total(dream.read);
            default:
                return dream.total(dream.sleep);
        }
    }

    public int peace() {
        dream.copyFrom(now.front);
        for (int n = 0; n < MOST_DAYS; n++) {
            if (dream.won != NONE) {
                return n;
            }
            now.passDay(dream, true);
        }
        return dream.won != NONE ? MOST_DAYS : NONE;
    }

    // ---- in thought: what is told for it ----

    public int guess(int row, int right, int wrong) {
        if (row == NONE) {
            return now.guesses.clear();
        }
        boolean answers = right >= 0 && right <= 4 && wrong >= 0 && wrong <= 4 - right;
        if (!answers || !Nights.isWord(row)) {
            return NONE;
        }
        return now.guesses.add(row, right, wrong, 0);
    }

    public int words(int what) {
        if (what != 0 && what != 1) {
            return NONE;
        }
        int many = 0;
        int least = NONE;
        for (int i = 0; i < Nights.WORDS; i++) {
            int word = Nights.word(i);
            if (Nights.fits(now.guesses, word)) {
                least = many == 0 ? word : least;
                many++;
            }
        }
        return what == 0 ? many : least;
    }

    public int letter(int which, int v) {
        if (which != 0 && which != 1) {
            return NONE;
        }
        Table row = which == 0 ? now.letters : now.key;
        if (v == NONE) {
            return row.clear();
        }
        return v >= 0 && v < 26 ? row.add(v, 0, 0, 0) : NONE;
    }

    public int message(int what, int i) {
        int many = now.letters.rows;
        if (what == 2) {
            int turn = now.letters.at(many - 1, 0) - now.letters.at(0, 0);
            return many == 0 ? NONE : Math.floorMod(turn, 26);
        }
        if (i < 0 || i >= many) {
            return NONE;
        }
        if (what == 0 || what == 1) {
            int by = now.key.rows == 0 ? 0 : now.key.at(i % now.key.rows, 0);
            int letter = now.letters.at(i, 0);
            return Math.floorMod(what == 0 ? letter + by : letter - by, 26);
        }
        if (what < 11 || what > 16) {
            return NONE;
        }
        return now.letters.at(Nights.byRails(many, what - 10, i), 0);
    }

    public int bit(int v) {
        if (v == NONE) {
            return now.bits.clear();
        }
        return v == 0 || v == 1 ? now.bits.add(v, 0, 0, 0) : NONE;
    }

    public int anew(int what) {
        switch (what) {
            case 0:
                return Nights.pieces(now.bits);
            case 1:
                return Nights.longestAlike(now.bits);
            case 2:
                return Nights.firstAlike(now.bits, Nights.longestAlike(now.bits));
            default:
                return NONE;
        }
    }

    public int queen(int x, int y) {
        if (x == NONE) {
            return now.queens.clear();
        }
        boolean onBoard = x >= 0 && x < Nights.BOARD && y >= 0 && y < Nights.BOARD;
        if (!onBoard || now.queens.has(x, y)) {
            return NONE;
        }
        return now.queens.add(x, y, 0, 0);
    }

    public int queens(int n) {
        if (n < 1 || n > Nights.BOARD) {
            return NONE;
        }
        return Nights.stand(now.queens, n, 0, 0, 0, 0);
    }

    public int corner(int x, int y) {
        if (x == NONE - 99) {
            return now.corners.clear();
        }
        return Ways.isPoint(x, y) ? now.corners.add(x, y, 0, 0) : NONE;
    }

    public int within(int x, int y) {
        return Ways.isPoint(x, y) ? Ways.meets(now.corners, x, y) : NONE;
    }

    public int area() {
        return Ways.twiceArea(now.corners);
    }

    // ---- in thought: what asks for its numbers alone ----

    public int boots(int n, int i, int k) {
        if (n < 1 || n > 10 || i < 0 || i >= n || k < 0 || k >= 1 << n) {
            return NONE;
        }
        return Sums.peg(n, i, k);
    }

    public int moves(int pegs) {
        return Sums.movesLeft(pegs);
    }

    public int billets(int n, int k) {
        if (n < 0 || n > 10 || k < NONE || k > 10) {
            return NONE;
        }
        if (k != NONE) {
            return Sums.housed(n, k);
        }
        int ways = 0;
        for (int houses = 0; houses <= n; houses++) {
            ways += Sums.housed(n, houses);
        }
        return ways;
    }

    public int pairs(int n, int k) {
        if (n < 0 || n > 10 || k < 0 || k > n) {
            return NONE;
        }
        return Sums.choose(n, k) * Sums.noneHisOwn(n - k);
    }

    public int ahead(int a, int b, int what) {
        if (a < 0 || a > 12 || b < 0 || b >= a || what < 0 || what > 2) {
            return NONE;
        }
        int shots = a + b;
        int lead = a - b;
        if (what == 0) {
            return Sums.choose(shots, a) * lead / shots;
        }
        int common = Sums.commonPart(shots, lead);
        return (what == 1 ? lead : shots) / common;
    }

    public int feast(int y, int what) {
        if (y < 1600 || y > 2400 || what < 0 || what > 1) {
            return NONE;
        }
        int day = Sums.feastDay(y);
        return what == 0 ? day / 31 : day % 31 + 1;
    }

    public int happy(int n, int what) {
        if (n < 1 || n > 99999) {
            return NONE;
        }
        switch (what) {
            case 0:
                return Sums.happyEnd(n) == 1 ? 1 : 0;
            case 1:
                return Sums.happySteps(n);
            case 2:
                return n > 999 ? NONE : Sums.happyUpTo(n);
            default:
                return NONE;
        }
    }

    public int parts(int n, int what) {
        if (n < 2 || n > 99999 || what < 0 || what > 3) {
            return NONE;
        }
        return Sums.ofPrimes(n, what);
    }

    public int brackets(int n, int k, int what) {
        if (n < 0 || n > 8) {
            return NONE;
        }
        switch (what) {
            case 0:
                return Sums.closings(2 * n, 0);
            case 1:
                return k < 0 || k >= Sums.closings(2 * n, 0) ? NONE : Sums.bracketRow(n, k);
            case 2:
                return k < 0 || k >= 1 << 2 * n ? NONE : Sums.bracketPlace(n, k);
            default:
                return NONE;
        }
    }

    public int game(int n, int m) {
        if (n < 1 || n > 120 || m > 120 || m < 1 && m != NONE) {
            return NONE;
        }
        int take = Sums.leastPart(n);
        return take <= (m == NONE ? n - 1 : m) ? take : NONE;
    }

    // ---- undone, and the image ----

    public boolean undo() {
        return past.goBack(now);
    }

    public boolean image(boolean taken) {
        if (taken) {
            kept.copyFrom(now);
            imaged = true;
        } else if (imaged) {
            now.copyFrom(kept);
            past.forget();
        }
        return imaged;
    }

    /** Rows of a few numbers each, made once: as many rows at most as it was made for. */
    private static final class Table {
        private final int wide;
        private final int[] cells;
        private int rows = 0;

        Table(int most, int wide) {
            this.wide = Math.max(1, Math.min(4, wide));
            this.cells = new int[Math.max(0, most) * this.wide];
        }

        /** NONE where nothing is told. */
        int at(int row, int column) {
            if (row < 0 || row >= rows || column < 0 || column >= wide) {
                return NONE;
            }
            int cell = row * wide + column;
            return cell < cells.length ? cells[cell] : NONE;
        }

        /** How many rows there are then; NONE if it is full. Of the numbers it takes as many as it is wide. */
        int add(int a, int b, int c, int d) {
            int cell = rows * wide;
            if (cell + wide > cells.length) {
                return NONE;
            }
            for (int i = 0; i < wide && cell + i < cells.length; i++) {
                cells[cell + i] = i == 0 ? a : i == 1 ? b : i == 2 ? c : d;
            }
            rows++;
            return rows;
        }

        boolean has(int a, int b) {
            for (int i = 0; i < rows; i++) {
                if (at(i, 0) == a && at(i, 1) == b) {
                    return true;
                }
            }
            return false;
        }

        /** How many rows there are then: none. */
        int clear() {
            rows = 0;
            return 0;
        }

        /** Only the first n rows stay. */
        void keepFirst(int n) {
            rows = Math.max(0, Math.min(rows, n));
        }

        void copyFrom(Table other) {
            rows = other.rows;
            copyRow(other.cells, cells);
        }
    }

    private static void copyRow(int[] from, int[] to) {
        for (int i = 0; i < from.length && i < to.length; i++) {
            to[i] = from[i];
        }
    }

    /** How the war stands: all that a day changes, but for THE BOOK. */
    private static final class Front {
        private int officers = 0;
        private final int[] side = new int[MEN];
        private final int[] skill = new int[MEN];
        private final int[] sleep = new int[MEN];
        private final int[] plan = new int[MEN];
        private final int[] read = new int[MEN];
        private final int[] hole = new int[MEN];
        private final int[] done = new int[MEN];
        private int batmen = 0;
        private final int[] batSide = new int[MEN];
        private final int[] care = new int[MEN];
        private final int[] wear = new int[MEN];
        private int line = 0;
        private int won = NONE;
        private int day = 0;
        private int draws = 0;

        boolean hasOfficer(int i) {
            return i >= 0 && i < officers && i < MEN;
        }

        boolean hasBatman(int i) {
            return i >= 0 && i < batmen && i < MEN;
        }

        int addOfficer(int ofSide, int ofSkill) {
            int number = officers;
            if (number < 0 || number >= MEN) {
                return NONE;
            }
            side[number] = ofSide;
            skill[number] = ofSkill;
            sleep[number] = 50;
            officers = number + 1;
            return number;
        }

        int addBatman(int ofSide, int ofCare) {
            int number = batmen;
            if (number < 0 || number >= MEN) {
                return NONE;
            }
            batSide[number] = ofSide;
            care[number] = ofCare;
            batmen = number + 1;
            return number;
        }

        boolean putOfficer(int what, int who, int v) {
            if (!hasOfficer(who) || v < 0 || v > (what == 0 ? MOST_SKILL : MOST)) {
                return false;
            }
            int[] row = what == 0 ? skill : what == 1 ? sleep : plan;
            row[who] = v;
            return true;
        }

        boolean putBatman(int what, int who, int v) {
            if (!hasBatman(who) || v < 0 || v > (what == 3 ? MOST_SKILL : MOST)) {
                return false;
            }
            int[] row = what == 3 ? care : wear;
            row[who] = v;
            return true;
        }

        boolean putLine(int v) {
            if (won != NONE || v <= -MOST || v >= MOST) {
                return false;
            }
            line = v;
            return true;
        }

        boolean mustGiveUp(int officer) {
            return hasOfficer(officer) && (hole[officer] == 1 || read[officer] == 1);
        }

        boolean hasTen(int officer) {
            return hasOfficer(officer) && plan[officer] >= 10;
        }

        int draw(int of) {
            draws = draws * 1664525 + 1013904223;
            return of < 1 ? 0 : (draws >>> 8) % of;
        }

        /** What a keyword of THE LAW means for an OFFICER and his BATMAN (or NONE). */
        int value(int word, int officer, int batman) {
            if (!hasOfficer(officer)) {
                return 0;
            }
            switch (word) {
                case SKILL:
                    return skill[officer];
                case SLEEP:
                    return sleep[officer];
                case PLAN:
                    return plan[officer];
                case HOLE:
                    return hole[officer];
                case CARE:
                    return hasBatman(batman) ? care[batman] : 0;
                case WEAR:
                    return hasBatman(batman) ? wear[batman] : 0;
                case LINE:
                    return line;
                case SIDE:
                    return side[officer];
                case DONE:
                    return done[officer];
                case DAY:
                    return day;
                default:
                    return 0;
            }
        }

        int total(int[] row) {
            int sum = 0;
            for (int i = 0; i < officers && i < row.length; i++) {
                sum += row[i];
            }
            return sum;
        }

        int whoIsRead() {
            int set = 0;
            for (int i = 0; i < officers && i < MEN; i++) {
                set |= read[i] << i;
            }
            return set;
        }

        void copyFrom(Front other) {
            officers = other.officers;
            copyRow(other.side, side);
            copyRow(other.skill, skill);
            copyRow(other.sleep, sleep);
            copyRow(other.plan, plan);
            copyRow(other.read, read);
            copyRow(other.hole, hole);
            copyRow(other.done, done);
            batmen = other.batmen;
            copyRow(other.batSide, batSide);
            copyRow(other.care, care);
            copyRow(other.wear, wear);
            line = other.line;
            won = other.won;
            day = other.day;
            draws = other.draws;
        }
    }

    /** THE LAW: its lines, and their expressions as code for a stack. */
    private static final class Law {
        /** The operation that puts a number on the stack; the others go by their keyword or their sign. */
        private static final int NUMBER = 1000;
        /** Far above what a text of 400 bytes with 8 open brackets can ask for. */
        private static final int STACK = 64;

        /** Word, where its E begins, where its B begins, where the line ends (without B: the same). */
        private final Table lines = new Table(TEXT_LINES, 4);
        /** Operation, number. */
        private final Table code = new Table(TAPE, 2);
        private final int[] stack = new int[STACK];

        void clear() {
            lines.clear();
            code.clear();
        }

        void copyFrom(Law other) {
            lines.copyFrom(other.lines);
            code.copyFrom(other.code);
        }

        int tells(Front front, int officer, int batman, int word) {
            for (int i = 0; i < lines.rows; i++) {
                int first = lines.at(i, 1);
                int middle = lines.at(i, 2);
                int behind = lines.at(i, 3);
                if (lines.at(i, 0) == word
                        && (middle == behind || run(front, officer, batman, middle, behind) != 0)) {
                    return held(word, run(front, officer, batman, first, middle));
                }
            }
            return held(word, untold(front, officer, batman, word));
        }

        private static int untold(Front front, int officer, int batman, int word) {
            int care = front.value(CARE, officer, batman);
            switch (word) {
                case PRESSES:
                    return front.value(SKILL, officer, batman);
                case RESTS:
                    return 10 + 5 * care;
                default:
                    return 40 * care + front.value(WEAR, officer, batman);
            }
        }

        private static int held(int word, int v) {
            int most = word == PRESSES ? 20 : word == RESTS ? 99 : 1000;
            return Math.max(0, Math.min(most, v));
        }

        private int run(Front front, int officer, int batman, int first, int behind) {
            int top = 0;
            for (int i = first; i < behind; i++) {
                int op = code.at(i, 0);
                int number = code.at(i, 1);
                if (op == NUMBER || op >= SKILL && op <= DAY) {
                    if (top < STACK) {
                        stack[top] = op == NUMBER ? number : front.value(op, officer, batman);
                        top++;
                    }
                } else if (op == NOT || op == '/') {
                    if (top > 0 && top <= STACK) {
                        stack[top - 1] = op == NOT ? 1 - stack[top - 1] : quotient(stack[top - 1], number);
                    }
                } else if (top > 1 && top <= STACK) {
                    top--;
                    stack[top - 1] = joined(op, stack[top - 1], stack[top]);
                }
            }
            return top > 0 ? stack[0] : 0;
        }

        private static int quotient(int a, int by) {
            return by == 0 ? 0 : a / by;
        }

        private static int joined(int op, int a, int b) {
            switch (op) {
                case '+':
                    return a + b;
                case '-':
                    return a - b;
                case '*':
                    return a * b;
                case '<':
                    return a < b ? 1 : 0;
                case '=':
                    return a == b ? 1 : 0;
                case '>':
                    return a > b ? 1 : 0;
                case AND:
                    return a & b;
                default:
                    return a | b;
            }
        }
    }

    /** All that is and was told: what THE IMAGE keeps. */
    private static final class War {
        private final Front front = new Front();
        private final Table book = new Table(BOOK_LINES, 4);
        private final Law law = new Law();
        /** DAY, keyword, who, N. */
        private final Table orders = new Table(TEXT_LINES, 4);
        /** OFFICER, BATMAN. */
        private final Table service = new Table(TEXT_LINES, 4);
        /** OFFICER, the one whom he needs. */
        private final Table needs = new Table(TEXT_LINES, 4);
        private final Table guesses = new Table(8, 3);
        private final Table letters = new Table(12, 1);
        private final Table key = new Table(4, 1);
        private final Table bits = new Table(16, 1);
        private final Table queens = new Table(7, 2);
        private final Table corners = new Table(8, 2);

        void copyFrom(War other) {
            front.copyFrom(other.front);
            book.copyFrom(other.book);
            law.copyFrom(other.law);
            orders.copyFrom(other.orders);
            service.copyFrom(other.service);
            needs.copyFrom(other.needs);
            guesses.copyFrom(other.guesses);
            letters.copyFrom(other.letters);
            key.copyFrom(other.key);
            bits.copyFrom(other.bits);
            queens.copyFrom(other.queens);
            corners.copyFrom(other.corners);
        }

        int batmanOf(int officer) {
            for (int i = service.rows - 1; i >= 0; i--) {
                if (service.at(i, 0) == officer) {
                    return service.at(i, 1);
                }
            }
            return NONE;
        }

        int servedBy(int batman) {
            int set = 0;
            for (int i = 0; i < front.officers; i++) {
                if (batmanOf(i) == batman) {
                    set |= 1 << i;
                }
            }
            return set;
        }

        int needed(int officer) {
            int set = 0;
            for (int i = 0; i < needs.rows; i++) {
                if (needs.at(i, 0) == officer) {
                    set |= 1 << needs.at(i, 1);
                }
            }
            return set;
        }

        boolean hasHisNeeds(Front f, int officer) {
            for (int i = 0; i < needs.rows; i++) {
                if (needs.at(i, 0) == officer && !f.hasTen(needs.at(i, 1))) {
                    return false;
                }
            }
            return true;
        }

        int asks(Front f, int officer, int word) {
            return law.tells(f, officer, batmanOf(officer), word);
        }

        private void write(Front f, boolean thought, int what, int who, int much) {
            if (!thought) {
                book.add(f.day, what, who, much);
            }
        }

        /** By hand: whether it can be. */
        boolean canAct(int what, int who, int v) {
            if (front.won != NONE) {
                return false;
            }
            switch (what) {
                case 0:
                    return front.hasOfficer(who) && v >= 1 && v <= MOST;
                case 1:
                    return front.hasOfficer(who) && front.hole[who] == 0;
                case 2:
                    return front.hasOfficer(who) && front.hole[who] == 1;
                case 3:
                    return front.hasBatman(who) && front.wear[who] > 0;
                default:
                    return false;
            }
        }

        void perform(int what, int who, int v) {
            int order = what == 0 ? MARCH : what == 1 ? HOLE : what == 2 ? SOLE : NEW;
            obey(front, false, order, who, v);
        }

        private void obey(Front f, boolean thought, int order, int who, int v) {
            if (order == NEW) {
                if (f.hasBatman(who)) {
                    f.wear[who] = 0;
                }
            } else if (f.hasOfficer(who)) {
                if (order == MARCH) {
                    march(f, thought, who, v);
                } else if (order == HOLE || order == SOLE) {
                    f.hole[who] = order == HOLE ? 1 : 0;
                }
            }
        }

        private void march(Front f, boolean thought, int who, int v) {
            if (!f.hasOfficer(who)) {
                return;
            }
            if (f.mustGiveUp(who)) {
                write(f, thought, GIVEN_UP, who, f.plan[who]);
                f.plan[who] = 0;
                f.read[who] = 0;
            } else if (!hasHisNeeds(f, who)) {
                write(f, thought, COULD_NOT, who, f.plan[who]);
            } else {
                f.plan[who] = Math.min(MOST, f.plan[who] + v);
                write(f, thought, CAME_ON, who, f.plan[who]);
            }
        }

        /** A DAY of f, which in thought writes and draws nothing: how many plans were carried out. */
        int passDay(Front f, boolean thought) {
            int carried = 0;
            if (f.won == NONE) {
                boolean truce = follow(f, thought);
                for (int i = 0; i < f.officers && !truce && f.won == NONE; i++) {
                    carried += press(f, thought, i);
                }
                for (int i = 0; i < f.officers && f.won == NONE; i++) {
                    spendEvening(f, thought, i);
                }
            }
            f.day++;
            return carried;
        }

        /** The ORDERS of the day: whether there is a truce. */
        private boolean follow(Front f, boolean thought) {
            boolean truce = false;
            for (int i = 0; i < orders.rows; i++) {
                if (orders.at(i, 0) == f.day) {
                    int order = orders.at(i, 1);
                    truce = truce || order == TRUCE;
                    obey(f, thought, order, orders.at(i, 2), orders.at(i, 3));
                }
            }
            return truce;
        }

        /** How many plans he carried out: 0 or 1. */
        private int press(Front f, boolean thought, int i) {
            if (!f.hasOfficer(i)) {
                return 0;
            }
            int force = asks(f, i, PRESSES);
            if (f.sleep[i] < 50) {
                force = Math.max(0, force - (50 - f.sleep[i]) / 10);
            }
            boolean carried = f.plan[i] == MOST;
            if (carried) {
                force += 10;
                f.done[i]++;
                f.plan[i] = 0;
                write(f, thought, CARRIED_OUT, i, force);
            }
            f.line = f.side[i] == 0 ? Math.min(MOST, f.line + force) : Math.max(-MOST, f.line - force);
            if (f.line == MOST || f.line == -MOST) {
                f.won = f.line == MOST ? 0 : 1;
                write(f, thought, VICTORY, i, f.won);
            }
            return carried ? 1 : 0;
        }

        private void spendEvening(Front f, boolean thought, int i) {
            if (!f.hasOfficer(i)) {
                return;
            }
            f.sleep[i] = Math.max(0, f.sleep[i] - 10);
            int batman = batmanOf(i);
            if (!f.hasBatman(batman)) {
                return;
            }
            f.sleep[i] = Math.min(MOST, f.sleep[i] + asks(f, i, RESTS));
            f.wear[batman] = Math.min(MOST, f.wear[batman] + 1);
            int reads = asks(f, i, READS);
            boolean seen = thought ? reads >= 500 : reads > 0 && f.draw(1000) < reads;
            if (seen && f.read[i] == 0) {
                f.read[i] = 1;
                write(f, thought, MIND_READ, i, f.sleep[i]);
            }
        }
    }

    /** The latest fronts, to which undo() goes back; a ring that forgets the oldest. */
    private static final class Past {
        private final Front[] fronts = new Front[KEPT];
        /** How many lines THE BOOK had: it only grows, so that is all there is to keep of it. */
        private final int[] pages = new int[KEPT];
        private int newest = 0;
        private int count = 0;

        Past() {
            for (int i = 0; i < KEPT; i++) {
                fronts[i] = new Front();
            }
        }

        void keep(Front front, int lines) {
            newest = (newest + 1) % KEPT;
            count = Math.min(KEPT, count + 1);
            Front room = fronts[newest];
            if (room != null) {
                room.copyFrom(front);
            }
            pages[newest] = lines;
        }

        boolean goBack(War war) {
            Front was = fronts[newest];
            if (count == 0 || was == null) {
                return false;
            }
            war.front.copyFrom(was);
            war.book.keepFirst(pages[newest]);
            newest = (newest + KEPT - 1) % KEPT;
            count--;
            return true;
        }

        void forget() {
            count = 0;
        }
    }

    /** The TAPE, and the texts read from it into a draft, so that a FAULT leaves what was told as it was. */
    private static final class Reader {
        private static final int OPEN = 8;
        private static final int END = 0;
        private static final int BLANK = 1;
        private static final int LETTERS = 2;
        private static final int DIGITS = 3;
        private static final int SIGN = 4;

        private final int[] tape = new int[TAPE];
        private int length = 0;
        private final int[] places = new int[TAPE + 1];
        private final int[] kinds = new int[TAPE + 1];
        private final int[] values = new int[TAPE + 1];
        private int at = 0;
        private int taken = 0;
        private int fault = 0;
        private int faultPlace = NONE;
        private final Law law = new Law();
        private final Table rows = new Table(TEXT_LINES, 4);

        void put(int number) {
            for (int shift = 24; shift >= 0 && length < TAPE; shift -= 8) {
                tape[length] = number >>> shift & 255;
                length++;
            }
        }

        // -- tokens --

        /** Cuts the TAPE into tokens; the END stands behind them. */
        void cut() {
            at = 0;
            fault = 0;
            faultPlace = NONE;
            int tokens = 0;
            int last = BLANK;
            for (int i = 0; i < length && i < TAPE; i++) {
                int kind = kindOf(tape[i]);
                boolean goesOn = kind == last && (kind == LETTERS || kind == DIGITS);
                if (kind != BLANK && !goesOn && tokens < TAPE) {
                    places[tokens] = i;
                    kinds[tokens] = kind;
                    values[tokens] = kind == LETTERS ? keyword(i) : kind == DIGITS ? number(i) : tape[i];
                    tokens++;
                }
                last = kind;
            }
            places[tokens] = length;
            kinds[tokens] = END;
            values[tokens] = NONE;
        }

        private static int kindOf(int c) {
            if (c == 32 || c == 10) {
                return BLANK;
            }
            if (c >= 'a' && c <= 'z' || c >= 'A' && c <= 'Z') {
                return LETTERS;
            }
            return c >= '0' && c <= '9' ? DIGITS : SIGN;
        }

        /** Behind the letters, or the digits, that begin at a place. */
        private int behind(int place, int kind) {
            int end = place;
            while (end < length && end < TAPE && kindOf(tape[end]) == kind) {
                end++;
            }
            return end;
        }

        /** The number of the keyword that begins at a place; NONE if those letters are none. */
        private int keyword(int place) {
            int end = behind(place, LETTERS);
            int number = 0;
            int letter = place;
            boolean alike = true;
            for (int i = 0; i < KEYWORDS.length(); i++) {
                char c = KEYWORDS.charAt(i);
                if (c != ' ') {
                    alike = alike && letter < end && tape[letter] == c;
                    letter++;
                } else if (alike && letter == end) {
                    return number;
                } else {
                    number++;
                    letter = place;
                    alike = true;
                }
            }
            return NONE;
        }

        /** NONE if there are more than four digits. */
        private int number(int place) {
            int end = behind(place, DIGITS);
            int number = 0;
            for (int i = place; i < end && i < place + 4; i++) {
                number = number * 10 + tape[i] - '0';
            }
            return end - place > 4 ? NONE : number;
        }

        // -- what stands next --

        private int kind() {
            return at >= 0 && at < kinds.length ? kinds[at] : END;
        }

        private int value() {
            return at >= 0 && at < values.length ? values[at] : NONE;
        }

        private boolean isSign(int c) {
            return kind() == SIGN && value() == c;
        }

        private boolean isWord(int word) {
            return kind() == LETTERS && value() == word;
        }

        private boolean fail(int which, int token) {
            fault = which;
            faultPlace = token >= 0 && token < places.length ? places[token] : length;
            return false;
        }

        private boolean sign(int c) {
            if (!isSign(c)) {
                return fail(1, at);
            }
            at++;
            return true;
        }

        private boolean word(int word) {
            if (!isWord(word)) {
                return fail(1, at);
            }
            at++;
            return true;
        }

        /** Takes a NUMBER within bounds; it is in taken then. */
        private boolean takes(int least, int most) {
            if (kind() != DIGITS || value() == NONE) {
                return fail(1, at);
            }
            if (value() < least || value() > most) {
                return fail(2, at);
            }
            taken = value();
            at++;
            return true;
        }

        /** Takes the keyword that a line begins with, one from first to last; it is in taken then. */
        private boolean opens(int line, int first, int last) {
            if (kind() != LETTERS || value() < first || value() > last) {
                return fail(1, at);
            }
            if (line >= TEXT_LINES) {
                return fail(3, at);
            }
            taken = value();
            at++;
            return true;
        }

        // -- THE LAW --

        boolean readLaw() {
            law.clear();
            for (int line = 0; line <= TEXT_LINES; line++) {
                if (kind() == END) {
                    return true;
                }
                if (!opens(line, PRESSES, READS)) {
                    return false;
                }
                int word = taken;
                int first = law.code.rows;
                if (!sum()) {
                    return false;
                }
                int middle = law.code.rows;
                if (isWord(WHEN)) {
                    at++;
                    if (!condition(0)) {
                        return false;
                    }
                }
                if (!sign(';')) {
                    return false;
                }
                law.lines.add(word, first, middle, law.code.rows);
            }
            return false;
        }

        /** B: what "or" and "and" join waits until its right side is read, "and" the shorter. */
        private boolean condition(int open) {
            boolean and = false;
            boolean or = false;
            for (int turn = 0; turn <= TAPE; turn++) {
                if (!comparison(open)) {
                    return false;
                }
                if (and) {
                    law.code.add(AND, 0, 0, 0);
                }
                and = isWord(AND);
                if (!and) {
                    if (or) {
                        law.code.add(OR, 0, 0, 0);
                    }
                    or = isWord(OR);
                    if (!or) {
                        return true;
                    }
                }
                at++;
            }
            return false;
        }

        /** C, within so many open brackets and nots. */
        private boolean comparison(int open) {
            boolean not = isWord(NOT);
            if (not || isSign('(')) {
                if (open >= OPEN) {
                    return fail(3, at);
                }
                at++;
                if (!not) {
                    return condition(open + 1) && sign(')');
                }
                boolean told = comparison(open + 1);
                law.code.add(NOT, 0, 0, 0);
                return told;
            }
            if (!sum()) {
                return false;
            }
            if (!isSign('<') && !isSign('=') && !isSign('>')) {
                return fail(1, at);
            }
            int op = value();
            at++;
            boolean told = sum();
            law.code.add(op, 0, 0, 0);
            return told;
        }

        /** E: + and - wait until the product behind them is read. */
        private boolean sum() {
            int waits = NONE;
            for (int turn = 0; turn <= TAPE; turn++) {
                if (!product()) {
                    return false;
                }
                if (waits != NONE) {
                    law.code.add(waits, 0, 0, 0);
                }
                if (!isSign('+') && !isSign('-')) {
                    return true;
                }
                waits = value();
                at++;
            }
            return false;
        }

        /** T. */
        private boolean product() {
            if (!unit()) {
                return false;
            }
            for (int turn = 0; turn <= TAPE; turn++) {
                if (isSign('*')) {
                    at++;
                    if (!unit()) {
                        return false;
                    }
                    law.code.add('*', 0, 0, 0);
                } else if (isSign('/')) {
                    at++;
                    if (!takes(1, 9999)) {
                        return false;
                    }
                    law.code.add('/', taken, 0, 0);
                } else {
                    return true;
                }
            }
            return false;
        }

        /** U. */
        private boolean unit() {
            boolean number = kind() == DIGITS && value() != NONE;
            boolean named = kind() == LETTERS && value() >= SKILL && value() <= DAY;
            if (!number && !named) {
                return fail(1, at);
            }
            law.code.add(number ? Law.NUMBER : value(), value(), 0, 0);
            at++;
            return true;
        }

        // -- ORDERS, SERVICE, NEEDS --

        boolean readOrders(Front front) {
            rows.clear();
            for (int line = 0; line <= TEXT_LINES; line++) {
                if (kind() == END) {
                    return true;
                }
                if (!opens(line, ON, ON) || !takes(0, 999)) {
                    return false;
                }
                int day = taken;
                int what = kind() == LETTERS ? value() : NONE;
                if (what != HOLE && (what < MARCH || what > TRUCE)) {
                    return fail(1, at);
                }
                at++;
                int who = NONE;
                int much = 0;
                if (what != TRUCE) {
                    if (!takes(0, (what == NEW ? front.batmen : front.officers) - 1)) {
                        return false;
                    }
                    who = taken;
                }
                if (what == MARCH) {
                    if (!takes(1, MOST)) {
                        return false;
                    }
                    much = taken;
                }
                if (!sign(';')) {
                    return false;
                }
                rows.add(day, what, who, much);
            }
            return false;
        }

        /** SERVICE, or NEEDS: an OFFICER and the one whom the line gives him. */
        boolean readCouples(Front front, boolean service) {
            rows.clear();
            for (int line = 0; line <= TEXT_LINES; line++) {
                if (kind() == END) {
                    return true;
                }
                if (!opens(line, OFFICER, OFFICER) || !takes(0, front.officers - 1)) {
                    return false;
                }
                int officer = taken;
                if (!word(service ? BATMAN : NEEDS)) {
                    return false;
                }
                if (!takes(0, (service ? front.batmen : front.officers) - 1)) {
                    return false;
                }
                if (service ? !canServe(front, officer, taken) : !canNeed(front, officer, taken)) {
                    return fail(2, at - 1);
                }
                if (!sign(';')) {
                    return false;
                }
                rows.add(officer, taken, 0, 0);
            }
            return false;
        }

        private static boolean canServe(Front front, int officer, int batman) {
            return front.hasOfficer(officer) && front.hasBatman(batman)
                    && front.side[officer] != front.batSide[batman];
        }

        private static boolean canNeed(Front front, int officer, int other) {
            return front.hasOfficer(officer) && front.hasOfficer(other)
                    && officer != other && front.side[officer] == front.side[other];
        }
    }

    /** WORD, MESSAGE, ANEW, QUEENS: what is told for thought is looked through. */
    private static final class Nights {
        private static final int WORDS = 1296;
        private static final int BOARD = 7;
        private static final int BITS = 16;

        /** The i-th of all words, in order. */
        static int word(int i) {
            return i / 216 % 6 * 1000 + i / 36 % 6 * 100 + i / 6 % 6 * 10 + i % 6;
        }

        static boolean isWord(int row) {
            return row >= 0 && row <= 5555 && row % 10 < 6 && row / 10 % 10 < 6 && row / 100 % 10 < 6;
        }

        static boolean fits(Table guesses, int word) {
            for (int i = 0; i < guesses.rows; i++) {
                int guess = guesses.at(i, 0);
                int right = right(guess, word);
                if (right != guesses.at(i, 1) || common(guess, word) - right != guesses.at(i, 2)) {
                    return false;
                }
            }
            return true;
        }

        private static int right(int a, int b) {
            int right = 0;
            for (int by = 1; by <= 1000; by *= 10) {
                right += a / by % 10 == b / by % 10 ? 1 : 0;
            }
            return right;
        }

        /** How many digits they have in common, wherever they stand. */
        private static int common(int a, int b) {
            int both = 0;
            for (int digit = 0; digit < 6; digit++) {
                both += Math.min(times(digit, a), times(digit, b));
            }
            return both;
        }

        private static int times(int digit, int word) {
            int times = 0;
            for (int by = 1; by <= 1000; by *= 10) {
                times += word / by % 10 == digit ? 1 : 0;
            }
            return times;
        }

        /** Which letter of so many is the i-th that is read from so many rails. */
        static int byRails(int letters, int rails, int i) {
            int read = 0;
            for (int rail = 0; rail < rails; rail++) {
                for (int letter = 0; letter < letters; letter++) {
                    if (rail(letter, rails) == rail) {
                        if (read == i) {
                            return letter;
                        }
                        read++;
                    }
                }
            }
            return NONE;
        }

        private static int rail(int letter, int rails) {
            int round = 2 * (rails - 1);
            if (round < 1) {
                return 0;
            }
            int step = letter % round;
            return step < rails ? step : round - step;
        }

        /** A piece is held as a number: its bits behind a 1, so that 0 and 00 are two. */
        static int pieces(Table bits) {
            int[] found = new int[BITS];
            int many = 0;
            int piece = 1;
            for (int i = 0; i < bits.rows; i++) {
                piece = piece * 2 + bits.at(i, 0);
                if (!stands(found, many, piece) && many < BITS) {
                    found[many] = piece;
                    many++;
                    piece = 1;
                }
            }
            return piece == 1 ? many : many + 1;
        }

        private static boolean stands(int[] found, int many, int piece) {
            for (int i = 0; i < many && i < found.length; i++) {
                if (found[i] == piece) {
                    return true;
                }
            }
            return false;
        }

        static int longestAlike(Table bits) {
            for (int length = bits.rows; length > 0; length--) {
                if (firstAlike(bits, length) != NONE) {
                    return length;
                }
            }
            return 0;
        }

        /** Where the first piece of that length begins that reads alike both ways. */
        static int firstAlike(Table bits, int length) {
            for (int first = 0; length > 0 && first + length <= bits.rows; first++) {
                if (readsAlike(bits, first, first + length - 1)) {
                    return first;
                }
            }
            return NONE;
        }

        private static boolean readsAlike(Table bits, int first, int last) {
            for (int i = 0; first + i < last - i; i++) {
                if (bits.at(first + i, 0) != bits.at(last - i, 0)) {
                    return false;
                }
            }
            return true;
        }

        /** In how many ways queens stand from column x on; taken rows and slants are sets. */
        private static int stand(Table told, int n, int x, int rows, int rising, int falling) {
            if (x >= n || x > BOARD) {
                return 1;
            }
            int wanted = toldOn(told, n, x);
            int ways = 0;
            for (int y = 0; y < n; y++) {
                int row = 1 << y;
                int up = 1 << x + y;
                int down = 1 << x - y + BOARD;
                boolean free = (rows & row) == 0 && (rising & up) == 0 && (falling & down) == 0;
                if (free && (wanted == 0 || wanted == row)) {
                    ways += stand(told, n, x + 1, rows | row, rising | up, falling | down);
                }
            }
            return ways;
        }

        private static int toldOn(Table told, int n, int x) {
            int set = 0;
            for (int y = 0; y < n; y++) {
                if (told.has(x, y)) {
                    set |= 1 << y;
                }
            }
            return set;
        }
    }

    /** WITHIN: a way round by its corners. */
    private static final class Ways {
        static boolean isPoint(int x, int y) {
            return x >= -50 && x <= 50 && y >= -50 && y <= 50;
        }

        static int meets(Table corners, int x, int y) {
            boolean odd = false;
            for (int i = 0; i < corners.rows; i++) {
                int next = i + 1 < corners.rows ? i + 1 : 0;
                int x1 = corners.at(i, 0);
                int y1 = corners.at(i, 1);
                int x2 = corners.at(next, 0);
                int y2 = corners.at(next, 1);
                int turn = (x2 - x1) * (y - y1) - (x - x1) * (y2 - y1);
                if (turn == 0 && isBetween(x, x1, x2) && isBetween(y, y1, y2)) {
                    return 2;
                }
                boolean crosses = y1 <= y && y < y2 || y2 <= y && y < y1;
                if (crosses && (y1 < y2 ? turn > 0 : turn < 0)) {
                    odd = !odd;
                }
            }
            return odd ? 1 : 0;
        }

        private static boolean isBetween(int v, int a, int b) {
            return v >= Math.min(a, b) && v <= Math.max(a, b);
        }

        static int twiceArea(Table corners) {
            int sum = 0;
            for (int i = 0; i < corners.rows; i++) {
                int next = i + 1 < corners.rows ? i + 1 : 0;
                sum += corners.at(i, 0) * corners.at(next, 1) - corners.at(next, 0) * corners.at(i, 1);
            }
            return sum;
        }
    }

    /** What is thought of numbers alone. */
    private static final class Sums {
        /** Bit i of the moves tells whether boot i has gone to where its tower was bound. */
        static int peg(int boots, int boot, int moves) {
            int from = 0;
            int to = 2;
            for (int i = boots - 1; i > boot; i--) {
                int spare = 3 - from - to;
                if ((moves >> i & 1) == 0) {
                    to = spare;
                } else {
                    from = spare;
                }
            }
            return (moves >> boot & 1) == 0 ? from : to;
        }

        static int movesLeft(int pegs) {
            long ten = 10;
            for (int boots = 1; boots <= 10; boots++) {
                if (pegs >= ten && pegs < 2 * ten) {
                    return movesFrom((int) (pegs - ten), boots);
                }
                ten *= 10;
            }
            return NONE;
        }

        /** From the greatest boot on, which stands last in the row. */
        private static int movesFrom(int row, int boots) {
            int left = 0;
            int bound = 2;
            int rest = row;
            for (int boot = boots - 1; boot >= 0; boot--) {
                int peg = rest % 10;
                rest /= 10;
                if (peg > 2) {
                    return NONE;
                }
                if (peg != bound) {
                    left += 1 << boot;
                    bound = 3 - bound - peg;
                }
            }
            return left;
        }

        /** The last of the men joins one of the houses or has one of his own. */
        private static int housed(int men, int houses) {
            if (men <= 0 || men > 10 || houses <= 0 || houses > men) {
                return men == 0 && houses == 0 ? 1 : 0;
            }
            return houses * housed(men - 1, houses) + housed(men - 1, houses - 1);
        }

        static int choose(int n, int k) {
            if (k < 0 || k > n) {
                return 0;
            }
            long ways = 1;
            for (int i = 1; i <= k; i++) {
                ways = ways * (n - k + i) / i;
            }
            return (int) ways;
        }

        static int noneHisOwn(int men) {
            int ways = 1;
            for (int i = 1; i <= men; i++) {
                ways = ways * i + (i % 2 == 0 ? 1 : -1);
            }
            return ways;
        }

        static int commonPart(int a, int b) {
            for (int d = Math.min(a, b); d > 1; d--) {
                if (a % d == 0 && b % d == 0) {
                    return d;
                }
            }
            return 1;
        }

        /** 31 times the month and the day less one. */
        static int feastDay(int y) {
            int a = y % 19;
            int b = y / 100;
            int c = y % 100;
            int d = b / 4;
            int e = b % 4;
            int f = (b + 8) / 25;
            int g = (b - f + 1) / 3;
            int h = (19 * a + b - d - g + 15) % 30;
            int i = c / 4;
            int k = c % 4;
            int l = (32 + 2 * e + 2 * i - h - k) % 7;
            int m = (a + 11 * h + 22 * l) / 451;
            return h + l - 7 * m + 114;
        }

        private static int digitSquares(int n) {
            int sum = 0;
            for (int rest = n; rest > 0; rest /= 10) {
                sum += (rest % 10) * (rest % 10);
            }
            return sum;
        }

        /** Each number comes to 1 or to 4, within far fewer turns than these. */
        static int happySteps(int n) {
            int at = n;
            for (int turn = 0; turn < 1000; turn++) {
                if (at == 1 || at == 4) {
                    return turn;
                }
                at = digitSquares(at);
            }
            return NONE;
        }

        static int happyEnd(int n) {
            int at = n;
            for (int turn = 0; turn < 1000 && at != 1 && at != 4; turn++) {
                at = digitSquares(at);
            }
            return at;
        }

        static int happyUpTo(int n) {
            int many = 0;
            for (int i = 1; i <= n; i++) {
                many += happyEnd(i) == 1 ? 1 : 0;
            }
            return many;
        }

        /** Of n's parts what 0 primes, 1 the greatest, 2 how many divide it, 3 their sum. */
        static int ofPrimes(int n, int what) {
            int rest = n;
            int primes = 0;
            int greatest = 1;
            int divisors = 1;
            int sum = 1;
            for (int p = 2; rest > 1 && p <= n; p++) {
                if (p * p > rest) {
                    p = rest; // what is left without a lesser part is a prime itself
                }
                int times = 0;
                int powers = 1;
                for (; rest > 1 && rest % p == 0; rest /= p) {
                    times++;
                    powers = powers * p + 1;
                }
                primes += times;
                greatest = times > 0 ? p : greatest;
                divisors *= times + 1;
                sum *= powers;
            }
            return what == 0 ? primes : what == 1 ? greatest : what == 2 ? divisors : sum;
        }

        /** In how many rows of so many bits so many open brackets can be closed. */
        static int closings(int bits, int open) {
            if (open < 0 || open > bits || (bits - open) % 2 != 0) {
                return 0;
            }
            int opening = (bits - open) / 2;
            return choose(bits, opening) - choose(bits, opening - 1);
        }

        static int bracketRow(int n, int k) {
            int row = 0;
            int open = 0;
            int ahead = k;
            for (int bits = 2 * n - 1; bits >= 0; bits--) {
                int opened = closings(bits, open + 1);
                boolean opens = ahead < opened;
                row = row * 2 + (opens ? 1 : 0);
                open += opens ? 1 : -1;
                ahead -= opens ? 0 : opened;
            }
            return row;
        }

        static int bracketPlace(int n, int row) {
            int place = 0;
            int open = 0;
            for (int bits = 2 * n - 1; bits >= 0; bits--) {
                boolean opens = (row >> bits & 1) == 1;
                place += opens ? 0 : closings(bits, open + 1);
                open += opens ? 1 : -1;
                if (open < 0) {
                    return NONE;
                }
            }
            return open == 0 ? place : NONE;
        }

        /**
         * The least number of the Fibonacci row (1, 2, 3, 5, ..) in the heap's greedy sum of them:
         * the least take that wins, as then the other can never take the next part whole.
         */
        static int leastPart(int heap) {
            int part = heap;
            int rest = heap;
            for (int turn = 0; turn < heap && rest > 0; turn++) {
                part = greatestWithin(rest);
                rest -= part;
            }
            return part;
        }

        private static int greatestWithin(int heap) {
            int part = 1;
            int next = 2;
            for (int turn = 0; turn < heap && next <= heap; turn++) {
                int behind = part + next;
                part = next;
                next = behind;
            }
            return part;
        }
    }
}
