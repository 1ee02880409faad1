/** All that can be asked, in a row, by few calls: as many men and lines as there are, and no more. */
final class Stand {
    static String war(SlipperTruce x) {
        StringBuilder s = new StringBuilder();
        for (int i = 0; i < 12; i++) {
            s.append(x.look(i)).append(' ');
        }
        for (int i = 0; i < x.look(0); i++) {
            for (int what = 0; what < 13; what++) {
                s.append(x.of(i, what)).append(' ');
            }
        }
        for (int i = 0; i < x.look(1); i++) {
            for (int what = 0; what < 4; what++) {
                s.append(x.who(i, what)).append(' ');
            }
        }
        for (int i = 0; i < x.look(6); i++) {
            for (int what = 0; what < 4; what++) {
                s.append(x.book(i, what)).append(' ');
            }
        }
        for (int what = 0; what < 4; what++) {
            s.append(x.goes(1, what)).append(' ').append(x.goes(20, what)).append(' ');
        }
        return s.append(x.peace()).toString();
    }

    static String thoughts(SlipperTruce x) {
        StringBuilder s = new StringBuilder();
        s.append(x.words(0)).append(' ').append(x.words(1)).append(' ').append(x.message(2, 0)).append(' ');
        for (int what : new int[] {0, 1, 12}) {
            for (int i = 0; x.message(what, i) >= 0; i++) {
                s.append(x.message(what, i)).append(' ');
            }
        }
        for (int what = 0; what < 3; what++) {
            s.append(x.anew(what)).append(' ');
        }
        for (int n = 1; n < 8; n++) {
            s.append(x.queens(n)).append(' ');
        }
        for (int i = -50; i <= 50; i += 10) {
            s.append(x.within(i, i)).append(x.within(i, 0)).append(x.within(0, i)).append(' ');
        }
        return s.append(x.area()).toString();
    }
}
