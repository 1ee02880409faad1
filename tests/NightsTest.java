/** Promises 17, 18, 26 to 34: what is told for thought, against a plain count of all there is. */
public final class NightsTest {
    private static int seed = 1;

    public static void main(String[] args) {
        guesses();
        words();
        letters();
        turned();
        rails();
        bits();
        anewByHand();
        anew();
        queenTold();
        queens();
        corners();
        withinByHand();
        within();
        Due.close("NightsTest");
    }

    private static int some(int m) {
        seed = seed * 1103515245 + 12345;
        return (seed >>> 16) % m;
    }

    private static void guesses() {
        SlipperTruce x = new SlipperTruce();
        for (int row : new int[] {-2, 6, 60, 600, 6000, 5556, 5565, 5655, 6555, 9999, 10000, Integer.MIN_VALUE,
            Integer.MAX_VALUE}) {
            Due.is("guess(" + row + ", 0, 0)", x.guess(row, 0, 0), -1);
        }
        int[][] wrong = {{5, 0}, {0, 5}, {-1, 1}, {1, -1}, {3, 2}, {2, 3}, {4, 1}, {1, 4},
            {Integer.MAX_VALUE, Integer.MAX_VALUE}, {Integer.MIN_VALUE, 0}, {0, Integer.MIN_VALUE}};
        for (int[] w : wrong) {
            Due.is("guess(1234, " + w[0] + ", " + w[1] + ")", x.guess(1234, w[0], w[1]), -1);
        }
        for (int what : new int[] {-1, 2, Integer.MAX_VALUE, Integer.MIN_VALUE}) {
            Due.is("words(" + what + ")", x.words(what), -1);
        }
        Due.is("words(0)", x.words(0), 1296);
        Due.is("words(1)", x.words(1), 0);
        Due.is("guess(5555, 0, 0)", x.guess(5555, 0, 0), 1);
        Due.is("words(0)", x.words(0), 625);
        Due.is("guess(0, 0, 0)", x.guess(0, 0, 0), 2);
        Due.is("words(1)", x.words(1), 1111);
        Due.is("guess(1111, 3, 1): no word is so", x.guess(1111, 3, 1), 3);
        Due.is("words(0)", x.words(0), 0);
        Due.is("words(1)", x.words(1), -1);
        for (int i = 4; i <= 8; i++) {
            Due.is("the same again", x.guess(1111, 4, 0), i);
        }
        Due.is("the ninth", x.guess(1111, 0, 0), -1);
        Due.is("guess(-1, 9, 9)", x.guess(-1, 9, 9), 0);
        Due.is("words(0)", x.words(0), 1296);
        Due.is("guess(12, 0, 4)", x.guess(12, 0, 4), 1);
    }

    private static int[] answer(int[] a, int[] b) {
        boolean[] used = new boolean[4];
        int right = 0;
        int wrong = 0;
        for (int i = 0; i < 4; i++) {
            if (a[i] == b[i]) {
                right++;
                used[i] = true;
            }
        }
        for (int i = 0; i < 4; i++) {
            for (int j = 0; j < 4 && a[i] != b[i]; j++) {
                if (!used[j] && a[i] == b[j] && a[j] != b[j]) {
                    used[j] = true;
                    wrong++;
                    break;
                }
            }
        }
        return new int[] {right, wrong};
    }

    private static int[] digits(int row) {
        return new int[] {row / 1000, row / 100 % 10, row / 10 % 10, row % 10};
    }

    private static void words() {
        for (int turn = 0; turn < 60; turn++) {
            SlipperTruce x = new SlipperTruce();
            int secret = some(6) * 1000 + some(6) * 100 + some(6) * 10 + some(6);
            int[] rows = new int[8];
            int[][] answers = new int[8][];
            for (int told = 0; told < 8; told++) {
                rows[told] = some(6) * 1000 + some(6) * 100 + some(6) * 10 + some(6);
                answers[told] = answer(digits(rows[told]), digits(secret));
                if (turn % 5 == 4 && told == 2) {
                    answers[told] = new int[] {some(3), some(3)};
                }
                Due.is("guess", x.guess(rows[told], answers[told][0], answers[told][1]), told + 1);
                int many = 0;
                int least = -1;
                for (int word = 0; word <= 5555; word++) {
                    int[] d = digits(word);
                    boolean fits = d[1] < 6 && d[2] < 6 && d[3] < 6;
                    for (int i = 0; i <= told && fits; i++) {
                        int[] a = answer(digits(rows[i]), d);
                        fits = a[0] == answers[i][0] && a[1] == answers[i][1];
                    }
                    if (fits) {
                        many++;
                        least = least < 0 ? word : least;
                    }
                }
                Due.is("words(0)", x.words(0), many);
                Due.is("words(1)", x.words(1), least);
            }
        }
    }

    private static void letters() {
        SlipperTruce x = new SlipperTruce();
        for (int which : new int[] {-1, 2, Integer.MAX_VALUE, Integer.MIN_VALUE}) {
            Due.is("letter(" + which + ", 0)", x.letter(which, 0), -1);
            Due.is("letter(" + which + ", -1)", x.letter(which, -1), -1);
        }
        for (int v : new int[] {-2, 26, Integer.MAX_VALUE, Integer.MIN_VALUE}) {
            Due.is("letter(0, " + v + ")", x.letter(0, v), -1);
            Due.is("letter(1, " + v + ")", x.letter(1, v), -1);
        }
        for (int i = 1; i <= 12; i++) {
            Due.is("letter " + i, x.letter(0, i % 2 == 0 ? 25 : 0), i);
        }
        Due.is("the thirteenth", x.letter(0, 0), -1);
        for (int i = 1; i <= 4; i++) {
            Due.is("letter of the key", x.letter(1, i), i);
        }
        Due.is("the fifth", x.letter(1, 0), -1);
        Due.is("message(2, 99)", x.message(2, 99), 25);
        Due.is("letter(1, -1)", x.letter(1, -1), 0);
        Due.is("message(0, 11)", x.message(0, 11), 25);
        Due.is("letter(0, -1)", x.letter(0, -1), 0);
        Due.is("message(0, 0)", x.message(0, 0), -1);
        Due.is("message(2, 0)", x.message(2, 0), -1);
        Due.is("letter(0, 9)", x.letter(0, 9), 1);
        Due.is("message(2, 0)", x.message(2, 0), 0);
        Due.is("letter(0, 3)", x.letter(0, 3), 2);
        Due.is("message(2, -1): modulo goes downwards", x.message(2, -1), 20);
    }

    private static void turned() {
        for (int turn = 0; turn < 200; turn++) {
            SlipperTruce x = new SlipperTruce();
            int n = some(13);
            int k = some(5);
            int[] letters = new int[n];
            int[] key = new int[k];
            for (int i = 0; i < n; i++) {
                letters[i] = some(26);
                x.letter(0, letters[i]);
            }
            for (int i = 0; i < k; i++) {
                key[i] = some(26);
                x.letter(1, key[i]);
            }
            for (int i = 0; i < n; i++) {
                int by = k == 0 ? 0 : key[i % k];
                Due.is("message(0, " + i + ")", x.message(0, i), (letters[i] + by) % 26);
                Due.is("message(1, " + i + ")", x.message(1, i), (letters[i] - by + 26) % 26);
            }
            for (int what : new int[] {0, 1, 11, 16}) {
                for (int i : new int[] {-1, n, 12, Integer.MIN_VALUE, Integer.MAX_VALUE}) {
                    Due.is("message(" + what + ", " + i + ")", x.message(what, i), -1);
                }
            }
            for (int what : new int[] {-1, 3, 9, 10, 17, Integer.MIN_VALUE, Integer.MAX_VALUE}) {
                Due.is("message(" + what + ", 0)", x.message(what, 0), -1);
            }
            if (n > 0) {
                Due.is("message(2, 0)", x.message(2, 0), (letters[n - 1] - letters[0] + 26) % 26);
            }
        }
    }

    private static void rails() {
        for (int n = 1; n <= 12; n++) {
            SlipperTruce x = new SlipperTruce();
            for (int i = 0; i < n; i++) {
                x.letter(0, i);
            }
            for (int k = 1; k <= 6; k++) {
                StringBuilder[] rails = new StringBuilder[k];
                for (int i = 0; i < k; i++) {
                    rails[i] = new StringBuilder();
                }
                int rail = 0;
                int step = 1;
                for (int i = 0; i < n; i++) {
                    rails[rail].append((char) ('a' + i));
                    if (rail + step < 0 || rail + step >= k) {
                        step = -step;
                    }
                    rail += k == 1 ? 0 : step;
                }
                String all = String.join("", rails);
                for (int i = 0; i < n; i++) {
                    Due.is("rails " + k + " of " + n + ", " + i, x.message(10 + k, i), all.charAt(i) - 'a');
                }
            }
        }
    }

    private static void bits() {
        SlipperTruce x = new SlipperTruce();
        for (int v : new int[] {-2, 2, Integer.MAX_VALUE, Integer.MIN_VALUE}) {
            Due.is("bit(" + v + ")", x.bit(v), -1);
        }
        for (int i = 1; i <= 16; i++) {
            Due.is("bit " + i, x.bit(1), i);
        }
        Due.is("the seventeenth", x.bit(0), -1);
        Due.is("anew(0): 1 11 111 1111 11111 and 1", x.anew(0), 6);
        Due.is("anew(1)", x.anew(1), 16);
        Due.is("anew(2)", x.anew(2), 0);
        for (int what : new int[] {-1, 3, Integer.MAX_VALUE, Integer.MIN_VALUE}) {
            Due.is("anew(" + what + ")", x.anew(what), -1);
        }
        Due.is("bit(-1)", x.bit(-1), 0);
        Due.is("anew(0)", x.anew(0), 0);
        Due.is("anew(1)", x.anew(1), 0);
        Due.is("anew(2)", x.anew(2), -1);
        Due.is("bit(0)", x.bit(0), 1);
        Due.is("anew(0)", x.anew(0), 1);
        Due.is("anew(1)", x.anew(1), 1);
        Due.is("anew(2)", x.anew(2), 0);
    }

    private static void anewByHand() {
        String[] rows = {"01", "00", "000", "0001", "10", "1011010", "0010110"};
        // 0|1, 0|0, 0|00, 0|00|1, 1|0, 1|0|11|01|0, 0|01|011|0
        int[][] due = {{2, 1, 0}, {2, 2, 0}, {2, 3, 0}, {3, 3, 0}, {2, 1, 0}, {5, 6, 0}, {4, 4, 3}};
        for (int i = 0; i < rows.length; i++) {
            SlipperTruce x = new SlipperTruce();
            for (char c : rows[i].toCharArray()) {
                x.bit(c - '0');
            }
            for (int what = 0; what < 3; what++) {
                Due.is("anew(" + what + ") of " + rows[i], x.anew(what), due[i][what]);
            }
        }
    }

    private static void anew() {
        for (int turn = 0; turn < 600; turn++) {
            SlipperTruce x = new SlipperTruce();
            StringBuilder row = new StringBuilder();
            int n = some(17);
            for (int i = 0; i < n; i++) {
                int bit = turn % 3 == 0 ? some(2) : some(4) / 3;
                row.append(bit);
                x.bit(bit);
            }
            java.util.Set<String> pieces = new java.util.HashSet<>();
            int many = 0;
            for (int at = 0; at < n; many++) {
                int end = at + 1;
                while (end < n && pieces.contains(row.substring(at, end))) {
                    end++;
                }
                pieces.add(row.substring(at, end));
                at = end;
            }
            String longest = "";
            for (int i = 0; i < n; i++) {
                for (int j = i + 1; j <= n; j++) {
                    String piece = row.substring(i, j);
                    if (piece.length() > longest.length()
                            && new StringBuilder(piece).reverse().toString().equals(piece)) {
                        longest = piece;
                    }
                }
            }
            Due.is("anew(0) of " + row, x.anew(0), many);
            Due.is("anew(1) of " + row, x.anew(1), longest.length());
            Due.is("anew(2) of " + row, x.anew(2), n == 0 ? -1 : row.indexOf(longest));
        }
    }

    private static void queenTold() {
        SlipperTruce x = new SlipperTruce();
        int[][] wrong = {{-2, 0}, {7, 0}, {0, -1}, {0, 7}, {Integer.MAX_VALUE, 0}, {0, Integer.MIN_VALUE}};
        for (int[] w : wrong) {
            Due.is("queen(" + w[0] + ", " + w[1] + ")", x.queen(w[0], w[1]), -1);
        }
        for (int i = 0; i < 7; i++) {
            Due.is("queen " + i, x.queen(i, 6), i + 1);
            Due.is("told already", x.queen(i, 6), -1);
        }
        Due.is("the eighth", x.queen(0, 0), -1);
        Due.is("queens(7)", x.queens(7), 0);
        Due.is("queens(6): none of them is on it", x.queens(6), 4);
        Due.is("queen(-1, 99)", x.queen(-1, 99), 0);
        Due.is("queens(7)", x.queens(7), 40);
        Due.is("queen(6, 6)", x.queen(6, 6), 1);
        for (int n : new int[] {0, -1, 8, Integer.MAX_VALUE, Integer.MIN_VALUE}) {
            Due.is("queens(" + n + ")", x.queens(n), -1);
        }
    }

    private static int count(int n, int[] columns, int x, boolean[][] told) {
        if (x == n) {
            for (int i = 0; i < n; i++) {
                for (int j = 0; j < n; j++) {
                    if (told[i][j] && columns[i] != j) {
                        return 0;
                    }
                }
            }
            return 1;
        }
        int ways = 0;
        for (int y = 0; y < n; y++) {
            boolean free = true;
            for (int i = 0; i < x; i++) {
                free = free && columns[i] != y && Math.abs(columns[i] - y) != x - i;
            }
            columns[x] = y;
            ways += free ? count(n, columns, x + 1, told) : 0;
        }
        return ways;
    }

    private static void queens() {
        for (int turn = 0; turn < 120; turn++) {
            SlipperTruce x = new SlipperTruce();
            boolean[][] told = new boolean[7][7];
            for (int i = some(4); i > 0; i--) {
                int a = some(7);
                int b = some(7);
                x.queen(a, b);
                told[a][b] = true;
            }
            for (int n = 1; n <= 7; n++) {
                Due.is("queens(" + n + ")", x.queens(n), count(n, new int[7], 0, told));
            }
        }
    }

    private static void corners() {
        SlipperTruce x = new SlipperTruce();
        int[][] wrong = {{-51, 0}, {51, 0}, {0, -51}, {0, 51}, {-1, -100}, {-99, 0}, {Integer.MAX_VALUE, 0},
            {0, Integer.MIN_VALUE}};
        for (int[] w : wrong) {
            Due.is("corner(" + w[0] + ", " + w[1] + ")", x.corner(w[0], w[1]), -1);
            Due.is("within(" + w[0] + ", " + w[1] + ")", x.within(w[0], w[1]), -1);
        }
        Due.is("within(-100, 0)", x.within(-100, 0), -1);
        for (int i = 1; i <= 8; i++) {
            Due.is("corner, the same again", x.corner(-50, 50), i);
        }
        Due.is("the ninth", x.corner(0, 0), -1);
        Due.is("within(-50, 50)", x.within(-50, 50), 2);
        Due.is("within(-50, 49)", x.within(-50, 49), 0);
        Due.is("corner(-100, 99)", x.corner(-100, 99), 0);
        Due.is("within(-50, 50)", x.within(-50, 50), 0);
        Due.is("area()", x.area(), 0);
    }

    private static void withinByHand() {
        SlipperTruce x = new SlipperTruce();
        x.corner(3, 4);
        Due.is("one corner", x.within(3, 4), 2);
        Due.is("beside it", x.within(2, 4), 0);
        x.corner(7, 6);
        Due.is("there and back", x.within(5, 5), 2);
        Due.is("beside it", x.within(4, 5), 0);
        Due.is("beyond it", x.within(9, 7), 0);
        Due.is("area()", x.area(), 0);
        x.corner(-100, 0);
        // a tip to the right at the height of the ray, and a tip that is passed
        int[][] way = {{0, 0}, {10, 5}, {0, 10}, {4, 5}};
        for (int[] c : way) {
            x.corner(c[0], c[1]);
        }
        Due.is("in it", x.within(7, 5), 1);
        Due.is("left of it, through both tips", x.within(1, 5), 0);
        Due.is("on a tip", x.within(4, 5), 2);
        Due.is("left of the lowest corner", x.within(-5, 0), 0);
        Due.is("left of the highest corner", x.within(-5, 10), 0);
        Due.is("area()", x.area(), 100 - 40);
        x.corner(-100, 0);
        for (int i = way.length - 1; i >= 0; i--) {
            x.corner(way[i][0], way[i][1]);
        }
        Due.is("area() the other way round", x.area(), 40 - 100);
    }

    private static boolean onEdge(int[] a, int[] b, int x, int y) {
        double length = Math.hypot(b[0] - a[0], b[1] - a[1]);
        double both = Math.hypot(x - a[0], y - a[1]) + Math.hypot(x - b[0], y - b[1]);
        return Math.abs(both - length) < 1e-9;
    }

    private static void within() {
        for (int turn = 0; turn < 150; turn++) {
            SlipperTruce x = new SlipperTruce();
            int n = some(9);
            int reach = turn % 2 == 0 ? 4 : 51;
            int[][] c = new int[n][];
            for (int i = 0; i < n; i++) {
                c[i] = new int[] {some(2 * reach - 1) - reach + 1, some(2 * reach - 1) - reach + 1};
                Due.is("corner", x.corner(c[i][0], c[i][1]), i + 1);
            }
            int twice = 0;
            for (int i = 0; i < n; i++) {
                twice += c[i][0] * c[(i + 1) % n][1] - c[(i + 1) % n][0] * c[i][1];
            }
            Due.is("area()", x.area(), twice);
            for (int px = -5; px <= 5; px++) {
                for (int py = -5; py <= 5; py++) {
                    boolean on = false;
                    int met = 0;
                    for (int i = 0; i < n; i++) {
                        int[] a = c[i];
                        int[] b = c[(i + 1) % n];
                        on = on || onEdge(a, b, px, py);
                        if (a[1] != b[1] && Math.min(a[1], b[1]) <= py && py < Math.max(a[1], b[1])) {
                            double at = a[0] + (py - a[1]) * (b[0] - a[0]) / (double) (b[1] - a[1]);
                            met += at > px + 1e-9 ? 1 : 0;
                        }
                    }
                    Due.is("within(" + px + ", " + py + ")", x.within(px, py), on ? 2 : met % 2);
                }
            }
        }
    }
}
