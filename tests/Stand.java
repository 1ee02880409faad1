/** All that can be asked, in a row, by few calls: as many men and lines as there are, and no more. */
final class Stand {
    static String war(SlipperTruce x) {
        StringBuilder s = new StringBuilder();
        int[] look = new int[12];
        for (int i = 0; i < look.length; i++) {
            look[i] = x.look(i);
            s.append(look[i]).append(' ');
        }
        for (int i = 0; i < look[0]; i++) {
            for (int what = 0; what < 13; what++) {
                s.append(x.of(i, what)).append(' ');
            }
        }
        for (int i = 0; i < look[1]; i++) {
            for (int what = 0; what < 4; what++) {
                s.append(x.who(i, what)).append(' ');
            }
        }
        for (int i = 0; i < look[6]; i++) {
            for (int what = 0; what < 4; what++) {
                s.append(x.book(i, what)).append(' ');
            }
        }
        for (int what = 0; what < 4; what++) {
            s.append(x.goes(20, what)).append(' ');
        }
        return s.append(x.peace()).toString();
    }

    static String thoughts(SlipperTruce x) {
        StringBuilder s = new StringBuilder();
        s.append(x.words(0)).append(' ').append(x.words(1)).append(' ').append(x.message(2, 0)).append(' ');
        for (int what : new int[] {0, 1, 12}) {
            int letter = x.message(what, 0);
            for (int i = 1; letter >= 0; i++) {
                s.append(letter).append(' ');
                letter = x.message(what, i);
            }
        }
        for (int what = 0; what < 3; what++) {
            s.append(x.anew(what)).append(' ');
        }
        for (int n = 1; n < 8; n++) {
            s.append(x.queens(n)).append(' ');
        }
        for (int i = -50; i <= 50; i += 25) {
            s.append(x.within(i, i)).append(x.within(i, 0)).append(x.within(0, i)).append(' ');
        }
        return s.append(x.area()).toString();
    }
}
