import java.util.ArrayDeque;
import java.util.ArrayList;
import java.util.Arrays;
import java.util.List;

/** Promises 19 to 25, 35 to 37: what is thought of numbers alone, against a plain count of all there is. */
public final class SumsTest {
    private static SlipperTruce latest = new SlipperTruce();
    private static int calls = 0;
    private static final int[] ODD = {Integer.MIN_VALUE, -1000, -2, Integer.MAX_VALUE, 1000000};

    public static void main(String[] args) {
        boots();
        moves();
        billets();
        pairs();
        ahead();
        feast();
        happy();
        parts();
        brackets();
        game();
        Due.is("nothing of it stays", x().look(12), 0);
        Due.close("SumsTest");
    }

    /** Another object behind 500 calls: what one answers behind its 512th is free. */
    private static SlipperTruce x() {
        calls++;
        if (calls % 500 == 0) {
            latest = new SlipperTruce();
        }
        return latest;
    }

    private static void carry(List<int[]> states, int[] pegs, int boots, int from, int to) {
        if (boots == 0) {
            return;
        }
        carry(states, pegs, boots - 1, from, 3 - from - to);
        pegs[boots - 1] = to;
        states.add(pegs.clone());
        carry(states, pegs, boots - 1, 3 - from - to, to);
    }

    private static void boots() {
        for (int n = 1; n <= 10; n++) {
            List<int[]> states = new ArrayList<>();
            int[] pegs = new int[n];
            states.add(pegs.clone());
            carry(states, pegs, n, 0, 2);
            for (int k = 0; k < states.size(); k++) {
                for (int i = 0; i < n; i++) {
                    Due.is("boots(" + n + ", " + i + ", " + k + ")", x().boots(n, i, k), states.get(k)[i]);
                }
            }
            Due.is("boots beyond the end", x().boots(n, 0, states.size()), -1);
            Due.is("boots beyond the last", x().boots(n, n, 0), -1);
            Due.is("boots ahead of the first", x().boots(n, -1, 0), -1);
            Due.is("boots ahead of the beginning", x().boots(n, 0, -1), -1);
        }
        Due.is("boots(0, 0, 0)", x().boots(0, 0, 0), -1);
        Due.is("boots(11, 0, 0)", x().boots(11, 0, 0), -1);
        for (int odd : ODD) {
            Due.is("boots(" + odd + ", 0, 0)", x().boots(odd, 0, 0), -1);
            Due.is("boots(3, " + odd + ", 0)", x().boots(3, odd, 0), -1);
            Due.is("boots(3, 0, " + odd + ")", x().boots(3, 0, odd), -1);
        }
    }

    private static void moves() {
        for (int n = 1; n <= 9; n++) {
            int states = (int) Math.pow(3, n);
            int[] far = new int[states];
            Arrays.fill(far, -1);
            ArrayDeque<Integer> next = new ArrayDeque<>();
            far[states - 1] = 0; // boot i is the i-th digit of three; all on peg 2
            next.add(states - 1);
            while (!next.isEmpty()) {
                int s = next.remove();
                boolean[] covered = new boolean[3];
                int place = 1;
                for (int i = 0; i < n; i++) {
                    int peg = s / place % 3;
                    for (int to = 0; to < 3 && !covered[peg]; to++) {
                        int t = s + (to - peg) * place;
                        if (!covered[to] && far[t] < 0) {
                            far[t] = far[s] + 1;
                            next.add(t);
                        }
                    }
                    covered[peg] = true;
                    place *= 3;
                }
            }
            for (int s = 0; s < states; s++) {
                int row = 1;
                int rest = s;
                for (int i = 0; i < n; i++) {
                    row = row * 10 + rest % 3;
                    rest /= 3;
                }
                Due.is("moves(" + row + ")", x().moves(row), far[s]);
            }
        }
        for (int pegs : new int[] {0, 1, 2, 9, 13, 19, 20, 22, 103, 130, 200, 222, 1003, 1300, 2000, 1222222223,
            1322222222, 2000000000, -1, -10, -12}) {
            Due.is("moves(" + pegs + ")", x().moves(pegs), -1);
        }
        for (int odd : new int[] {Integer.MIN_VALUE, Integer.MAX_VALUE}) {
            Due.is("moves(" + odd + ")", x().moves(odd), -1);
        }
    }

    private static void split(int left, int houses, int[] count) {
        if (left == 0) {
            count[houses]++;
            return;
        }
        for (int i = 0; i < houses; i++) {
            split(left - 1, houses, count);
        }
        split(left - 1, houses + 1, count);
    }

    private static void billets() {
        for (int n = 0; n <= 10; n++) {
            int[] count = new int[11];
            split(n, 0, count);
            int all = 0;
            for (int k = 0; k <= 10; k++) {
                Due.is("billets(" + n + ", " + k + ")", x().billets(n, k), count[k]);
                all += count[k];
            }
            Due.is("billets(" + n + ", -1)", x().billets(n, -1), all);
            Due.is("billets(" + n + ", 11)", x().billets(n, 11), -1);
        }
        for (int odd : ODD) {
            Due.is("billets(" + odd + ", 0)", x().billets(odd, 0), -1);
            Due.is("billets(5, " + odd + ")", x().billets(5, odd), -1);
        }
        Due.is("billets(-1, -1)", x().billets(-1, -1), -1);
        Due.is("billets(11, -1)", x().billets(11, -1), -1);
        Due.is("billets(0, -1)", x().billets(0, -1), 1);
    }

    private static void deal(int n, int man, int taken, int own, int[] count) {
        if (man == n) {
            count[own]++;
            return;
        }
        for (int pair = 0; pair < n; pair++) {
            if ((taken >> pair & 1) == 0) {
                deal(n, man + 1, taken | 1 << pair, own + (pair == man ? 1 : 0), count);
            }
        }
    }

    private static void pairs() {
        for (int n = 0; n <= 10; n++) {
            int[] count = new int[11];
            deal(n, 0, 0, 0, count);
            for (int k = 0; k <= n; k++) {
                Due.is("pairs(" + n + ", " + k + ")", x().pairs(n, k), count[k]);
            }
            Due.is("pairs(" + n + ", " + (n + 1) + ")", x().pairs(n, n + 1), -1);
            Due.is("pairs(" + n + ", -1)", x().pairs(n, -1), -1);
        }
        Due.is("pairs(-1, -1)", x().pairs(-1, -1), -1);
        Due.is("pairs(-1, 0)", x().pairs(-1, 0), -1);
        Due.is("pairs(11, 0)", x().pairs(11, 0), -1);
        for (int odd : ODD) {
            Due.is("pairs(" + odd + ", 0)", x().pairs(odd, 0), -1);
            Due.is("pairs(5, " + odd + ")", x().pairs(5, odd), -1);
        }
    }

    /** In how many orders a and b more shots are fired, in all or with the one ahead throughout. */
    private static long orders(int a, int b, int lead, boolean ahead) {
        if (ahead && lead < 1) {
            return 0;
        }
        if (a == 0 && b == 0) {
            return 1;
        }
        return (a > 0 ? orders(a - 1, b, lead + 1, ahead) : 0) + (b > 0 ? orders(a, b - 1, lead - 1, ahead) : 0);
    }

    private static void ahead() {
        for (int a = 0; a <= 12; a++) {
            for (int b = 0; b <= 12; b++) {
                if (a <= b) {
                    for (int what = 0; what < 3; what++) {
                        Due.is("ahead(" + a + ", " + b + ", " + what + ")", x().ahead(a, b, what), -1);
                    }
                    continue;
                }
                long good = orders(a - 1, b, 1, true);
                long all = orders(a, b, 0, false);
                long x = good;
                long y = all;
                while (y != 0) {
                    long z = x % y;
                    x = y;
                    y = z;
                }
                Due.is("ahead(" + a + ", " + b + ", 0)", x().ahead(a, b, 0), good);
                Due.is("ahead(" + a + ", " + b + ", 1)", x().ahead(a, b, 1), good / x);
                Due.is("ahead(" + a + ", " + b + ", 2)", x().ahead(a, b, 2), all / x);
            }
        }
        Due.is("ahead(13, 0, 0)", x().ahead(13, 0, 0), -1);
        Due.is("ahead(1, -1, 0)", x().ahead(1, -1, 0), -1);
        Due.is("ahead(0, -1, 0)", x().ahead(0, -1, 0), -1);
        for (int odd : ODD) {
            Due.is("ahead(" + odd + ", 1, 0)", x().ahead(odd, 1, 0), -1);
            Due.is("ahead(5, " + odd + ", 0)", x().ahead(5, odd, 0), -1);
            Due.is("ahead(5, 1, " + odd + ")", x().ahead(5, 1, odd), -1);
        }
        Due.is("ahead(5, 1, 3)", x().ahead(5, 1, 3), -1);
        Due.is("ahead(5, 1, -1)", x().ahead(5, 1, -1), -1);
    }

    /** Gauss's way, with its two exceptions: another one than the document's. */
    private static int easter(int y) {
        int k = y / 100;
        int m = (15 - (8 * k + 13) / 25 + k - k / 4) % 30;
        int n = (4 + k - k / 4) % 7;
        int a = y % 19;
        int d = (19 * a + m) % 30;
        int e = (2 * (y % 4) + 4 * (y % 7) + 6 * d + n) % 7;
        int march = 22 + d + e;
        if (march == 57 || march == 56 && d == 28 && a > 10) {
            march -= 7;
        }
        return march;
    }

    private static void feast() {
        for (int y = 1600; y <= 2400; y++) {
            int march = easter(y);
            Due.is("feast(" + y + ", 0)", x().feast(y, 0), march > 31 ? 4 : 3);
            Due.is("feast(" + y + ", 1)", x().feast(y, 1), march > 31 ? march - 31 : march);
        }
        for (int y : new int[] {1599, 2401, 0, -1, Integer.MIN_VALUE, Integer.MAX_VALUE}) {
            Due.is("feast(" + y + ", 0)", x().feast(y, 0), -1);
            Due.is("feast(" + y + ", 1)", x().feast(y, 1), -1);
        }
        for (int what : new int[] {-1, 2, Integer.MIN_VALUE, Integer.MAX_VALUE}) {
            Due.is("feast(2000, " + what + ")", x().feast(2000, what), -1);
        }
    }

    private static void happy() {
        int many = 0;
        for (int n = 1; n <= 99999; n++) {
            int at = n;
            int turns = 0;
            while (at != 1 && at != 4) {
                int sum = 0;
                for (char c : Integer.toString(at).toCharArray()) {
                    sum += (c - '0') * (c - '0');
                }
                at = sum;
                turns++;
            }
            many += at == 1 ? 1 : 0;
            if (n <= 3000 || n > 99000) {
                Due.is("happy(" + n + ", 0)", x().happy(n, 0), at == 1 ? 1 : 0);
                Due.is("happy(" + n + ", 1)", x().happy(n, 1), turns);
                Due.is("happy(" + n + ", 2)", x().happy(n, 2), n <= 999 ? many : -1);
            }
        }
        for (int n : new int[] {0, -1, 100000, Integer.MIN_VALUE, Integer.MAX_VALUE}) {
            for (int what = 0; what < 3; what++) {
                Due.is("happy(" + n + ", " + what + ")", x().happy(n, what), -1);
            }
        }
        for (int what : new int[] {-1, 3, Integer.MIN_VALUE, Integer.MAX_VALUE}) {
            Due.is("happy(7, " + what + ")", x().happy(7, what), -1);
        }
    }

    private static void parts() {
        for (int n = 2; n <= 99999; n += n < 2000 ? 1 : 37) {
            int divisors = 0;
            int sum = 0;
            for (int d = 1; d <= n; d++) {
                if (n % d == 0) {
                    divisors++;
                    sum += d;
                }
            }
            int primes = 0;
            int greatest = 0;
            int rest = n;
            for (int p = 2; rest > 1; p++) {
                while (rest % p == 0) {
                    rest /= p;
                    primes++;
                    greatest = p;
                }
            }
            Due.is("parts(" + n + ", 0)", x().parts(n, 0), primes);
            Due.is("parts(" + n + ", 1)", x().parts(n, 1), greatest);
            Due.is("parts(" + n + ", 2)", x().parts(n, 2), divisors);
            Due.is("parts(" + n + ", 3)", x().parts(n, 3), sum);
        }
        Due.is("parts(99991, 1), a prime", x().parts(99991, 1), 99991);
        Due.is("parts(99999, 3)", x().parts(99999, 3), 13 * 42 * 272 == 148512 ? 148512 : 0);
        Due.is("parts(65536, 0)", x().parts(65536, 0), 16);
        Due.is("parts(65536, 3)", x().parts(65536, 3), 131071);
        for (int n : new int[] {1, 0, -1, 100000, Integer.MIN_VALUE, Integer.MAX_VALUE}) {
            Due.is("parts(" + n + ", 0)", x().parts(n, 0), -1);
        }
        for (int what : new int[] {-1, 4, Integer.MIN_VALUE, Integer.MAX_VALUE}) {
            Due.is("parts(12, " + what + ")", x().parts(12, what), -1);
        }
    }

    private static boolean wellSet(int n, int row) {
        int open = 0;
        for (int bit = 2 * n - 1; bit >= 0; bit--) {
            open += (row >> bit & 1) == 1 ? 1 : -1;
            if (open < 0) {
                return false;
            }
        }
        return open == 0;
    }

    private static void brackets() {
        for (int n = 0; n <= 8; n++) {
            int place = 0;
            for (int row = (1 << 2 * n) - 1; row >= 0; row--) {
                boolean well = wellSet(n, row);
                Due.is("brackets(" + n + ", " + row + ", 2)", x().brackets(n, row, 2), well ? place : -1);
                if (well) {
                    Due.is("brackets(" + n + ", " + place + ", 1)", x().brackets(n, place, 1), row);
                    place++;
                }
            }
            Due.is("brackets(" + n + ", -7, 0)", x().brackets(n, -7, 0), place);
            Due.is("brackets(" + n + ", " + place + ", 1)", x().brackets(n, place, 1), -1);
            Due.is("brackets(" + n + ", -1, 1)", x().brackets(n, -1, 1), -1);
            Due.is("brackets(" + n + ", -1, 2)", x().brackets(n, -1, 2), -1);
            Due.is("brackets, a row too long", x().brackets(n, 1 << 2 * n, 2), -1);
            Due.is("brackets, a row too long", x().brackets(n, 1 << 2 * n | 42, 2), -1);
            for (int odd : ODD) {
                Due.is("brackets(" + n + ", " + odd + ", 1)", x().brackets(n, odd, 1), -1);
                Due.is("brackets(" + n + ", " + odd + ", 2)", x().brackets(n, odd, 2), -1);
                Due.is("brackets(" + n + ", 0, " + odd + ")", x().brackets(n, 0, odd), -1);
                Due.is("brackets(" + odd + ", 0, 0)", x().brackets(odd, 0, 0), -1);
            }
        }
        Due.is("brackets(9, 0, 0)", x().brackets(9, 0, 0), -1);
        Due.is("brackets(-1, 0, 0)", x().brackets(-1, 0, 0), -1);
        Due.is("brackets(3, 0, 3)", x().brackets(3, 0, 3), -1);
        Due.is("brackets(3, 0, -1)", x().brackets(3, 0, -1), -1);
    }

    private static void game() {
        boolean[][] wins = new boolean[121][241]; // of a heap with so many at most
        for (int heap = 1; heap <= 120; heap++) {
            for (int most = 1; most <= 240; most++) {
                for (int take = 1; take <= Math.min(most, heap); take++) {
                    wins[heap][most] = wins[heap][most] || !wins[heap - take][Math.min(240, 2 * take)];
                }
            }
        }
        for (int n = 1; n <= 120; n++) {
            for (int m = -1; m <= 120; m++) {
                int most = m == -1 ? n - 1 : Math.min(n, m);
                int due = -1;
                for (int take = most; take >= 1; take--) {
                    due = wins[n - take][Math.min(240, 2 * take)] ? due : take;
                }
                Due.is("game(" + n + ", " + m + ")", x().game(n, m), due);
            }
            Due.is("game(" + n + ", 121)", x().game(n, 121), -1);
            Due.is("game(" + n + ", 0)", x().game(n, 0), -1);
            Due.is("game(" + n + ", -2)", x().game(n, -2), -1);
        }
        for (int n : new int[] {0, -1, 121, Integer.MIN_VALUE, Integer.MAX_VALUE}) {
            Due.is("game(" + n + ", 1)", x().game(n, 1), -1);
            Due.is("game(" + n + ", -1)", x().game(n, -1), -1);
            Due.is("game(4, " + n + ")", x().game(4, n), n == -1 ? 1 : -1);
        }
    }
}
