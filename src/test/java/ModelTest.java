import java.util.ArrayList;
import java.util.List;

// Long runs of calls, drawn by a fixed rule, against a model that says the document's words one by one.
public final class ModelTest {
    private static final int RUNS = 300;
    private static final int CALLS = 512;

    private static final class Formula {
        final char sign;
        final int atom;
        final Formula a;
        final Formula b;

        Formula(char sign, int atom, Formula a, Formula b) {
            this.sign = sign;
            this.atom = atom;
            this.a = a;
            this.b = b;
        }

        boolean same(Formula other) {
            if (sign != other.sign || atom != other.atom || (a == null) != (other.a == null)) {
                return false;
            }
            return a == null || (a.same(other.a) && b.same(other.b));
        }

        boolean trueFor(boolean[] choice) {
            switch (sign) {
                case 'p': return choice[atom];
                case '&': return a.trueFor(choice) && b.trueFor(choice);
                case '|': return a.trueFor(choice) || b.trueFor(choice);
                case '>': return !a.trueFor(choice) || b.trueFor(choice);
                default: return false;
            }
        }
    }

    private static final class Model {
        final List<Formula> list = new ArrayList<>();
        boolean[][] table = null;

        int numberIn(Formula f) {
            for (int i = 0; i < list.size(); i++) {
                if (list.get(i).same(f)) {
                    return i;
                }
            }
            return -1;
        }

        int put(Formula f) {
            int there = numberIn(f);
            if (there >= 0) {
                return there;
            }
            if (list.size() == 11) {
                return -2;
            }
            list.add(f);
            table = null;
            return list.size() - 1;
        }

        boolean no(int i) {
            return i < 0 || i >= list.size();
        }

        int atom(int a) {
            return a < 0 || a > 3 ? -1 : put(new Formula('p', a, null, null));
        }

        int falsum() {
            return put(new Formula('f', 0, null, null));
        }

        int join(int op, int i, int j) {
            if (op < 0 || op > 2 || no(i) || no(j)) {
                return -1;
            }
            return put(new Formula("&|>".charAt(op), 0, list.get(i), list.get(j)));
        }

        int drop() {
            if (list.isEmpty()) {
                return -4;
            }
            list.remove(list.size() - 1);
            table = null;
            return list.size();
        }

        int sets() {
            return 1 << list.size();
        }

        // All sets at once, all rules over and over until none says anything new.
        boolean[][] table() {
            if (table == null) {
                int n = list.size();
                table = new boolean[sets()][n];
                boolean more = true;
                while (more) {
                    more = false;
                    for (int g = 0; g < sets(); g++) {
                        for (int c = 0; c < n; c++) {
                            if (!table[g][c] && bySomeRule(g, c)) {
                                table[g][c] = true;
                                more = true;
                            }
                        }
                    }
                }
            }
            return table;
        }

        boolean bySomeRule(int g, int c) {
            if ((g >> c & 1) == 1) {
                return true;
            }
            Formula goal = list.get(c);
            if (goal.sign == '&' && table[g][numberIn(goal.a)] && table[g][numberIn(goal.b)]) {
                return true;
            }
            if (goal.sign == '|' && (table[g][numberIn(goal.a)] || table[g][numberIn(goal.b)])) {
                return true;
            }
            if (goal.sign == '>' && table[g | 1 << numberIn(goal.a)][numberIn(goal.b)]) {
                return true;
            }
            for (int k = 0; k < list.size(); k++) {
                if (table[g][k] && bringsAbout(g, list.get(k), goal, c)) {
                    return true;
                }
            }
            return false;
        }

        boolean bringsAbout(int g, Formula known, Formula goal, int c) {
            switch (known.sign) {
                case 'f': return true;
                case '&': return known.a.same(goal) || known.b.same(goal);
                case '|': return table[g | 1 << numberIn(known.a)][c] && table[g | 1 << numberIn(known.b)][c];
                case '>': return known.b.same(goal) && table[g][numberIn(known.a)];
                default: return false;
            }
        }

        int cut(int set) {
            int kept = 0;
            for (int i = 0; i < list.size(); i++) {
                kept += (set >> i & 1) << i;
            }
            return kept;
        }

        int follows(int set, int c) {
            return no(c) ? -1 : table()[cut(set)][c] ? 1 : 0;
        }

        int all(int set) {
            int sum = 0;
            for (int i = 0; i < list.size(); i++) {
                sum += follows(set, i) << i;
            }
            return sum;
        }

        int classically(int set, int c) {
            if (no(c)) {
                return -1;
            }
            for (int choice = 0; choice < 16; choice++) {
                boolean[] v = {choice % 2 == 1, choice / 2 % 2 == 1, choice / 4 % 2 == 1, choice / 8 == 1};
                boolean given = true;
                for (int i = 0; i < list.size(); i++) {
                    given &= (set >> i & 1) == 0 || list.get(i).trueFor(v);
                }
                if (given && !list.get(c).trueFor(v)) {
                    return 0;
                }
            }
            return 1;
        }

        int alike(int i, int j) {
            return no(i) || no(j) ? -1 : follows(1 << i, j) * follows(1 << j, i);
        }

        int enough(int set, int c) {
            if (no(c)) {
                return -1;
            }
            int least = -4;
            for (int part = 0; part < sets(); part++) {
                int members = Integer.bitCount(part);
                if ((part | cut(set)) == cut(set) && table()[part][c] && (least < 0 || members < least)) {
                    least = members;
                }
            }
            return least;
        }

        boolean closed(int set) {
            for (int i = 0; i < list.size(); i++) {
                if (table()[set][i] && (set >> i & 1) == 0) {
                    return false;
                }
            }
            return true;
        }

        int saturated(int set) {
            int kept = cut(set);
            if (!closed(kept)) {
                return 0;
            }
            for (int i = 0; i < list.size(); i++) {
                Formula f = list.get(i);
                if ((kept >> i & 1) == 1) {
                    if (f.sign == 'f') {
                        return 0;
                    }
                    if (f.sign == '|' && (kept >> numberIn(f.a) & 1) == 0 && (kept >> numberIn(f.b) & 1) == 0) {
                        return 0;
                    }
                }
            }
            return 1;
        }

        int worlds() {
            int sum = 0;
            for (int set = 0; set < sets(); set++) {
                sum += saturated(set);
            }
            return sum;
        }

        int against(int set, int c) {
            if (no(c)) {
                return -1;
            }
            for (int world = 0; world < sets(); world++) {
                if ((world | cut(set)) == world && (world >> c & 1) == 0 && saturated(world) == 1) {
                    return world;
                }
            }
            return -4;
        }

        int closedSets() {
            int sum = 0;
            for (int set = 0; set < sets(); set++) {
                sum += closed(set) ? 1 : 0;
            }
            return sum;
        }
    }

    private static final int[] FAR = {Integer.MIN_VALUE, -33, -32, -1, 11, 31, 32, 43, Integer.MAX_VALUE};
    private static long seed = 20261115L;
    private static int wrong = 0;

    private static int draw(int bound) {
        seed = seed * 6364136223846793005L + 1442695040888963407L;
        return (int) ((seed >>> 33) % bound);
    }

    // Mostly a formula of the list, now and then one just past it or far off.
    private static int drawFormula(int size) {
        int kind = draw(24);
        if (kind == 0) {
            return FAR[draw(FAR.length)];
        }
        return kind == 1 || size == 0 ? size : draw(size);
    }

    private static int drawSet() {
        // A set too small or too large is not refused; its bits beyond the list are not looked at.
        if (draw(16) == 0) {
            return draw(6144) * (draw(2) == 0 ? 1 : -1);
        }
        int kind = draw(4);
        if (kind == 0) {
            return draw(2048);
        }
        // Small sets, from which not everything follows.
        int set = 0;
        for (int k = 0; k < kind; k++) {
            set |= 1 << draw(11);
        }
        return set;
    }

    private static void due(int run, int at, String call, int got, int want) {
        if (got != want) {
            wrong++;
            if (wrong <= 50) {
                System.out.println("run " + run + ", call " + at + ": " + call + " answered " + got + ", due is " + want);
            }
        }
    }

    private static void change(int run, int at, ConstructiveDesk x, Model m) {
        int size = m.list.size();
        int kind = draw(16);
        if (kind < 3) {
            int a = draw(6) - 1;
            due(run, at, "atom(" + a + ")", x.atom(a), m.atom(a));
        } else if (kind == 3) {
            due(run, at, "falsum()", x.falsum(), m.falsum());
        } else if (kind < 6) {
            due(run, at, "drop()", x.drop(), m.drop());
        } else {
            int op = draw(40) == 0 ? FAR[draw(FAR.length)] : draw(20) == 0 ? 3 : draw(3);
            int i = drawFormula(size);
            int j = drawFormula(size);
            due(run, at, "join(" + op + ", " + i + ", " + j + ")", x.join(op, i, j), m.join(op, i, j));
        }
    }

    private static void ask(int run, int at, ConstructiveDesk x, Model m) {
        int size = m.list.size();
        int set = drawSet();
        int c = drawFormula(size);
        int j = drawFormula(size);
        String both = "(" + set + ", " + c + ")";
        switch (draw(10)) {
            case 0: due(run, at, "size()", x.size(), size); break;
            case 1: due(run, at, "follows" + both, x.follows(set, c), m.follows(set, c)); break;
            case 2: due(run, at, "all(" + set + ")", x.all(set), m.all(set)); break;
            case 3: due(run, at, "classically" + both, x.classically(set, c), m.classically(set, c)); break;
            case 4: due(run, at, "alike(" + c + ", " + j + ")", x.alike(c, j), m.alike(c, j)); break;
            case 5: due(run, at, "enough" + both, x.enough(set, c), m.enough(set, c)); break;
            case 6:
                int asked = draw(2) == 0 ? m.all(set) : set;
                due(run, at, "saturated(" + asked + ")", x.saturated(asked), m.saturated(asked));
                break;
            case 7: due(run, at, "worlds()", x.worlds(), m.worlds()); break;
            case 8: due(run, at, "against" + both, x.against(set, c), m.against(set, c)); break;
            default: due(run, at, "closedSets()", x.closedSets(), m.closedSets()); break;
        }
    }

    public static void main(String[] args) {
        for (int run = 0; run < RUNS; run++) {
            ConstructiveDesk x = new ConstructiveDesk();
            Model m = new Model();
            for (int at = 0; at < CALLS; at++) {
                boolean young = m.list.size() < 5;
                if (draw(young ? 2 : 12) == 0) {
                    change(run, at, x, m);
                } else {
                    ask(run, at, x, m);
                }
            }
        }
        System.out.println(wrong == 0 ? "all answers are as due" : wrong + " answers are not as due");
        if (wrong != 0) {
            System.exit(1);
        }
    }
}
