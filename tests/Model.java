import java.util.ArrayList;
import java.util.List;

/**
 * A second, plain telling of the war: lists of rows, a new copy of all for each step that can be undone,
 * texts kept as tokens and looked through anew each time. It shares no way of working with the class.
 */
final class Model {
    static final int NONE = -1;

    /** A text as tokens: what they say, and where they stand. */
    static final class Tokens {
        final List<String> say = new ArrayList<>();
        final List<Integer> at = new ArrayList<>();

        Tokens(String text) {
            java.util.regex.Matcher m = java.util.regex.Pattern.compile("[a-zA-Z]+|[0-9]+|[^ \n]",
                java.util.regex.Pattern.DOTALL).matcher(text);
            while (m.find()) {
                say.add(m.group());
                at.add(m.start());
            }
            say.add("");
            at.add(text.length());
        }
    }

    /** All that can be undone. */
    static final class State {
        List<int[]> officers = new ArrayList<>(); // side skill sleep plan read hole done
        List<int[]> batmen = new ArrayList<>(); // side care wear
        List<int[]> book = new ArrayList<>();
        int line = 0;
        int won = NONE;
        int day = 0;
        int draws = 0;

        State copy() {
            State s = new State();
            for (int[] o : officers) {
                s.officers.add(o.clone());
            }
            for (int[] b : batmen) {
                s.batmen.add(b.clone());
            }
            s.book.addAll(book);
            s.line = line;
            s.won = won;
            s.day = day;
            s.draws = draws;
            return s;
        }
    }

    State s = new State();
    List<List<List<String>>> texts = new ArrayList<>(List.of(List.of(), List.of(), List.of(), List.of()));
    List<State> past = new ArrayList<>();
    State keptState;
    List<List<List<String>>> keptTexts;
    int fault = 0;
    int place = NONE;

    // ---- texts ----

    int tell(int k, String text) {
        fault = 0;
        place = NONE;
        if (k < 0 || k > 3) {
            return NONE;
        }
        Tokens t = new Tokens(text);
        int[] found = k == 0 ? lawFault(t) : rowFault(k, t);
        if (found != null) {
            fault = found[0];
            place = t.at.get(found[1]);
            return NONE;
        }
        List<List<String>> lines = new ArrayList<>();
        List<String> line = new ArrayList<>();
        for (String w : t.say) {
            if (w.equals(";")) {
                lines.add(line);
                line = new ArrayList<>();
            } else {
                line.add(w);
            }
        }
        texts.set(k, lines);
        if (k == 1 || k == 2) {
            past.clear();
        }
        return lines.size();
    }

    static boolean number(String w) {
        return w.matches("[0-9]{1,4}");
    }

    static boolean unit(String w) {
        return number(w) || List.of("skill", "sleep", "plan", "hole", "care", "wear", "line", "side", "done", "day")
            .contains(w);
    }

    /** Token by token, by what may stand there: the FAULT and its token. */
    private static int[] lawFault(Tokens t) {
        String may = "line"; // line, unit, divisor, behind a unit, beginning of C, behind a C
        int part = 0; // 0 the E of a line, 1 left, 2 right of a sign
        int lines = 0;
        List<String> open = new ArrayList<>();
        for (int i = 0; i < t.say.size(); i++) {
            String w = t.say.get(i);
            int[] bad = {1, i};
            if (may.equals("line")) {
                if (w.isEmpty()) {
                    return null;
                }
                if (!List.of("presses", "rests", "reads").contains(w)) {
                    return bad;
                }
                lines++;
                if (lines == 17) {
                    return new int[] {3, i};
                }
                may = "unit";
                part = 0;
            } else if (may.equals("unit") || may.equals("c") && unit(w)) {
                if (!unit(w)) {
                    return bad;
                }
                part = may.equals("c") ? 1 : part;
                may = "behind";
            } else if (may.equals("divisor")) {
                if (!number(w)) {
                    return bad;
                }
                if (Integer.parseInt(w) == 0) {
                    return new int[] {2, i};
                }
                may = "behind";
            } else if (may.equals("c")) {
                if (!w.equals("not") && !w.equals("(")) {
                    return bad;
                }
                if (open.size() == 8) {
                    return new int[] {3, i};
                }
                open.add(w);
            } else {
                boolean sum = may.equals("behind");
                if (sum && List.of("+", "-", "*").contains(w)) {
                    may = "unit";
                    continue;
                }
                if (sum && w.equals("/")) {
                    may = "divisor";
                    continue;
                }
                if (sum && part == 1) {
                    if (!List.of("<", "=", ">").contains(w)) {
                        return bad;
                    }
                    part = 2;
                    may = "unit";
                    continue;
                }
                if (sum && part == 0) {
                    if (w.equals("when")) {
                        may = "c";
                    } else if (w.equals(";")) {
                        may = "line";
                    } else {
                        return bad;
                    }
                    continue;
                }
                while (!open.isEmpty() && open.get(open.size() - 1).equals("not")) {
                    open.remove(open.size() - 1);
                }
                if (w.equals("and") || w.equals("or")) {
                    may = "c";
                } else if (w.equals(")") && !open.isEmpty()) {
                    open.remove(open.size() - 1);
                    may = "behind c";
                } else if (w.equals(";") && open.isEmpty()) {
                    may = "line";
                } else {
                    return bad;
                }
            }
        }
        return new int[] {1, t.say.size() - 1};
    }

    /** A pattern for each kind of line: words as they are, D a DAY, N a march, O an OFFICER, B a BATMAN. */
    private int[] rowFault(int k, Tokens t) {
        String[] kinds = k == 1
            ? new String[] {"on D march O N ;", "on D hole O ;", "on D sole O ;", "on D new B ;", "on D truce ;"}
            : new String[] {k == 2 ? "officer O batman B ;" : "officer O needs O ;"};
        int lines = 0;
        int i = 0;
        while (!t.say.get(i).isEmpty()) {
            List<String[]> open = new ArrayList<>();
            for (String kind : kinds) {
                open.add(kind.split(" "));
            }
            int first = NONE;
            for (int j = 0; !open.isEmpty() && j < open.get(0).length; j++, i++) {
                String w = t.say.get(i);
                List<String[]> fit = new ArrayList<>();
                for (String[] kind : open) {
                    boolean number = kind[j].matches("[DNOB]");
                    if (number ? number(w) : kind[j].equals(w)) {
                        fit.add(kind);
                    }
                }
                if (fit.isEmpty()) {
                    return new int[] {1, i};
                }
                if (j == 0 && ++lines == 17) {
                    return new int[] {3, i};
                }
                String sort = fit.get(0)[j];
                if (sort.matches("[DNOB]")) {
                    int v = Integer.parseInt(w);
                    boolean wrong = sort.equals("D") && v > 999 || sort.equals("N") && (v < 1 || v > 99)
                        || sort.equals("O") && v >= s.officers.size() || sort.equals("B") && v >= s.batmen.size();
                    if (!wrong && k > 1 && j == 3) {
                        int side = s.officers.get(first)[0];
                        wrong = k == 2 ? s.batmen.get(v)[0] == side : s.officers.get(v)[0] != side || v == first;
                    }
                    if (wrong) {
                        return new int[] {2, i};
                    }
                    first = j == 1 ? v : first;
                }
                open = fit;
            }
        }
        return null;
    }

    // ---- the law ----

    int asks(State f, int officer, String word) {
        int[] o = f.officers.get(officer);
        int batman = batmanOf(officer);
        int[] b = batman == NONE ? new int[3] : f.batmen.get(batman);
        int most = word.equals("presses") ? 20 : word.equals("rests") ? 99 : 1000;
        int v = word.equals("presses") ? o[1] : word.equals("rests") ? 10 + 5 * b[1] : 40 * b[1] + b[2];
        for (List<String> line : texts.get(0)) {
            int when = line.indexOf("when");
            int end = when < 0 ? line.size() : when;
            if (line.get(0).equals(word) && (when < 0 || any(f, o, b, line.subList(when + 1, line.size())))) {
                v = sum(f, o, b, line.subList(1, end));
                break;
            }
        }
        return v < 0 ? 0 : v > most ? most : v;
    }

    private static List<List<String>> split(List<String> row, String... by) {
        List<List<String>> out = new ArrayList<>();
        List<String> now = new ArrayList<>();
        int depth = 0;
        for (String w : row) {
            depth += w.equals("(") ? 1 : w.equals(")") ? -1 : 0;
            if (depth == 0 && List.of(by).contains(w)) {
                out.add(now);
                now = new ArrayList<>();
            } else {
                now.add(w);
            }
        }
        out.add(now);
        return out;
    }

    private boolean any(State f, int[] o, int[] b, List<String> row) {
        for (List<String> a : split(row, "or")) {
            boolean all = true;
            for (List<String> c : split(a, "and")) {
                all = all && one(f, o, b, c);
            }
            if (all) {
                return true;
            }
        }
        return false;
    }

    private boolean one(State f, int[] o, int[] b, List<String> row) {
        if (row.get(0).equals("not")) {
            return !one(f, o, b, row.subList(1, row.size()));
        }
        if (row.get(0).equals("(")) {
            return any(f, o, b, row.subList(1, row.size() - 1));
        }
        List<List<String>> sides = split(row, "<", "=", ">");
        int left = sum(f, o, b, sides.get(0));
        int right = sum(f, o, b, sides.get(1));
        return row.contains("<") ? left < right : row.contains("=") ? left == right : left > right;
    }

    private int sum(State f, int[] o, int[] b, List<String> row) {
        int sum = 0;
        int sign = 1;
        for (int i = 0; i < row.size();) {
            int j = i;
            while (j < row.size() && !row.get(j).equals("+") && !row.get(j).equals("-")) {
                j++;
            }
            sum += sign * product(f, o, b, row.subList(i, j));
            sign = j < row.size() && row.get(j).equals("-") ? -1 : 1;
            i = j + 1;
        }
        return sum;
    }

    private int product(State f, int[] o, int[] b, List<String> row) {
        int v = value(f, o, b, row.get(0));
        for (int i = 1; i < row.size(); i += 2) {
            int w = value(f, o, b, row.get(i + 1));
            v = row.get(i).equals("*") ? v * w : v / w;
        }
        return v;
    }

    private int value(State f, int[] o, int[] b, String w) {
        int i = List.of("side", "skill", "sleep", "plan", "-", "hole", "done").indexOf(w);
        if (i >= 0) {
            return o[i];
        }
        return w.equals("care") ? b[1] : w.equals("wear") ? b[2] : w.equals("line") ? f.line
            : w.equals("day") ? f.day : Integer.parseInt(w);
    }

    // ---- the war ----

    int batmanOf(int officer) {
        int batman = NONE;
        for (List<String> line : texts.get(2)) {
            batman = Integer.parseInt(line.get(1)) == officer ? Integer.parseInt(line.get(3)) : batman;
        }
        return batman;
    }

    boolean needsMet(State f, int officer) {
        boolean met = true;
        for (List<String> line : texts.get(3)) {
            if (Integer.parseInt(line.get(1)) == officer) {
                met = met && f.officers.get(Integer.parseInt(line.get(3)))[3] >= 10;
            }
        }
        return met;
    }

    private void write(State f, boolean thought, int what, int who, int much) {
        if (!thought && f.book.size() < 150) {
            f.book.add(new int[] {f.day, what, who, much});
        }
    }

    private void march(State f, boolean thought, int who, int n) {
        int[] o = f.officers.get(who);
        if (o[5] == 1 || o[4] == 1) {
            write(f, thought, 1, who, o[3]);
            o[3] = 0;
            o[4] = 0;
        } else if (!needsMet(f, who)) {
            write(f, thought, 2, who, o[3]);
        } else {
            o[3] = Math.min(99, o[3] + n);
            write(f, thought, 0, who, o[3]);
        }
    }

    int pass(State f, boolean thought) {
        if (f.won != NONE) {
            f.day++;
            return 0;
        }
        boolean truce = false;
        int carried = 0;
        for (List<String> line : texts.get(1)) {
            if (Integer.parseInt(line.get(1)) != f.day) {
                continue;
            }
            int who = line.size() > 3 ? Integer.parseInt(line.get(3)) : NONE;
            switch (line.get(2)) {
                case "march" -> march(f, thought, who, Integer.parseInt(line.get(4)));
                case "hole" -> f.officers.get(who)[5] = 1;
                case "sole" -> f.officers.get(who)[5] = 0;
                case "new" -> f.batmen.get(who)[2] = 0;
                default -> truce = true;
            }
        }
        for (int i = 0; i < f.officers.size() && !truce && f.won == NONE; i++) {
            int[] o = f.officers.get(i);
            int force = asks(f, i, "presses");
            if (o[2] < 50) {
                force = Math.max(0, force - Math.floorDiv(50 - o[2], 10));
            }
            if (o[3] == 99) {
                force += 10;
                o[6]++;
                o[3] = 0;
                carried++;
                write(f, thought, 3, i, force);
            }
            f.line += o[0] == 0 ? force : -force;
            if (f.line >= 99 || f.line <= -99) {
                f.line = f.line > 0 ? 99 : -99;
                f.won = f.line > 0 ? 0 : 1;
                write(f, thought, 5, i, f.won);
            }
        }
        for (int i = 0; i < f.officers.size() && f.won == NONE; i++) {
            int[] o = f.officers.get(i);
            o[2] = Math.max(0, o[2] - 10);
            if (batmanOf(i) == NONE) {
                continue;
            }
            int[] b = f.batmen.get(batmanOf(i));
            o[2] = Math.min(99, o[2] + asks(f, i, "rests"));
            b[2] = Math.min(99, b[2] + 1);
            int reads = asks(f, i, "reads");
            boolean read = reads >= 500;
            if (!thought) {
                read = false;
                if (reads > 0) {
                    f.draws = 1664525 * f.draws + 1013904223;
                    long high = (f.draws & 0xffffffffL) / 256;
                    read = high % 1000 < reads;
                }
            }
            if (read && o[4] == 0) {
                o[4] = 1;
                write(f, thought, 4, i, o[2]);
            }
        }
        f.day++;
        return carried;
    }

    // ---- the calls ----

    private void keep() {
        past.add(s.copy());
        if (past.size() > 6) {
            past.remove(0);
        }
    }

    int days(int n) {
        if (n < 1 || n > 60 || s.day + n > 9999) {
            return NONE;
        }
        int carried = 0;
        for (int i = 0; i < n; i++) {
            keep();
            carried += pass(s, false);
        }
        return carried;
    }

    boolean act(int what, int who, int v) {
        if (s.won != NONE || what < 0 || what > 3 || who < 0
            || who >= (what == 3 ? s.batmen : s.officers).size()) {
            return false;
        }
        boolean can = what == 0 ? v > 0 && v < 100 : what == 1 ? s.officers.get(who)[5] == 0
            : what == 2 ? s.officers.get(who)[5] == 1 : s.batmen.get(who)[2] > 0;
        if (!can) {
            return false;
        }
        keep();
        if (what == 0) {
            march(s, false, who, v);
        } else if (what == 3) {
            s.batmen.get(who)[2] = 0;
        } else {
            s.officers.get(who)[5] = 2 - what;
        }
        return true;
    }

    boolean set(int what, int who, int v) {
        boolean can;
        if (what == 5) {
            can = s.won == NONE && v > -99 && v < 99;
        } else {
            can = what >= 0 && what < 5 && who >= 0 && who < (what > 2 ? s.batmen : s.officers).size() && v >= 0
                && v <= (what == 0 || what == 3 ? 9 : 99);
        }
        if (can) {
            past.clear();
            if (what == 5) {
                s.line = v;
            } else if (what > 2) {
                s.batmen.get(who)[what - 2] = v;
            } else {
                s.officers.get(who)[what + 1] = v;
            }
        }
        return can;
    }

    int officer(int side, int skill) {
        if (side < 0 || side > 1 || skill < 0 || skill > 9 || s.officers.size() == 12) {
            return NONE;
        }
        past.clear();
        s.officers.add(new int[] {side, skill, 50, 0, 0, 0, 0});
        return s.officers.size() - 1;
    }

    int batman(int side, int care) {
        if (side < 0 || side > 1 || care < 0 || care > 9 || s.batmen.size() == 12) {
            return NONE;
        }
        past.clear();
        s.batmen.add(new int[] {side, care, 0});
        return s.batmen.size() - 1;
    }

    int state(int v) {
        int was = s.draws;
        s.draws = v;
        past.clear();
        return was;
    }

    boolean undo() {
        if (past.isEmpty()) {
            return false;
        }
        s = past.remove(past.size() - 1);
        return true;
    }

    boolean image(boolean taken) {
        if (taken) {
            keptState = s.copy();
            keptTexts = new ArrayList<>(texts);
        } else if (keptState != null) {
            s = keptState.copy();
            texts = new ArrayList<>(keptTexts);
            past.clear();
        }
        return keptState != null;
    }

    int of(int i, int what) {
        if (i < 0 || i >= s.officers.size() || what < 0 || what > 12) {
            return -2;
        }
        int[] o = s.officers.get(i);
        if (what < 7) {
            return o[what];
        }
        if (what == 7) {
            return batmanOf(i);
        }
        if (what == 8) {
            int set = 0;
            for (List<String> line : texts.get(3)) {
                set |= Integer.parseInt(line.get(1)) == i ? 1 << Integer.parseInt(line.get(3)) : 0;
            }
            return set;
        }
        if (what < 12) {
            return asks(s, i, List.of("presses", "rests", "reads").get(what - 9));
        }
        return o[4] == 0 && o[5] == 0 && needsMet(s, i) ? 1 : 0;
    }

    int who(int i, int what) {
        if (i < 0 || i >= s.batmen.size() || what < 0 || what > 3) {
            return NONE;
        }
        int set = 0;
        for (int o = 0; o < s.officers.size(); o++) {
            set |= batmanOf(o) == i ? 1 << o : 0;
        }
        return what == 3 ? set : s.batmen.get(i)[what];
    }

    int book(int i, int what) {
        return i < 0 || i >= s.book.size() || what < 0 || what > 3 ? NONE : s.book.get(i)[what];
    }

    int goes(int n, int what) {
        if (n < 1 || n > 60 || what < 0 || what > 3) {
            return -1000;
        }
        State f = s.copy();
        for (int i = 0; i < n; i++) {
            pass(f, true);
        }
        int sum = what == 0 ? f.line : 0;
        for (int[] o : f.officers) {
            sum += what == 0 ? 0 : o[what == 1 ? 6 : what == 2 ? 4 : 2];
        }
        return sum;
    }

    int peace() {
        State f = s.copy();
        for (int n = 0; n <= 60; n++) {
            if (f.won != NONE) {
                return n;
            }
            pass(f, true);
        }
        return NONE;
    }

    int look(int what) {
        int read = 0;
        for (int i = 0; i < s.officers.size(); i++) {
            read |= s.officers.get(i)[4] << i;
        }
        int[] all = {s.officers.size(), s.batmen.size(), s.line, s.won, read, s.day, s.book.size(), s.draws,
            texts.get(0).size(), texts.get(1).size(), texts.get(2).size(), texts.get(3).size(), past.size()};
        return what < 0 || what > 12 ? -100000 : all[what];
    }
}
