import java.util.ArrayList;
import java.util.List;
import java.util.function.ToIntFunction;

// "A refused call answers the code named and changes nothing."
// Each refusal that the document names, on several lists: the object that refused is asked everything that an
// object without the refused call is asked, and is then used further, and both must answer the same.
public final class RefusalTest {
    private static final int BAD_ARG = -1;
    private static final int FULL = -2;
    private static final int NONE = -4;
    // An object is good for 512 calls; the making takes eleven and the refused call is made up to three times.
    private static final int CALLS = 512 - 11 - 3;

    // p, q, r, s are the atoms, f is falsum, 0&1, 0|1, 0>1 are joins of those two numbers.
    private static final String[] LISTS = {
        "", "p", "f", "p q f 0|1 0&1 0>1 0>2", "p q r s f 0>4 0|5 1|2 5>4 8>0",
        "p q r 0&1 0|1 0>1 1&1 1|1 1>1 2&1 2|1", "p q r s f 0&1 0|1 0>1 0>4 1>4 2|3",
        "f 0>0 0&0 0|0 1>0 1|0 1&0 2&2 2|2 2>2 3>3"
    };

    private static int wrong = 0;

    private static void due(String call, int got, int want) {
        if (got != want) {
            wrong++;
            if (wrong <= 50) {
                System.out.println(call + " answered " + got + ", due is " + want);
            }
        }
    }

    private static ConstructiveDesk desk(String list) {
        ConstructiveDesk x = new ConstructiveDesk();
        for (String formula : formulasOf(list)) {
            put(x, formula);
        }
        return x;
    }

    private static int put(ConstructiveDesk x, String formula) {
        if (formula.equals("f")) {
            return x.falsum();
        }
        if (formula.length() == 1) {
            return x.atom("pqrs".indexOf(formula));
        }
        int at = formula.indexOf('&') + formula.indexOf('|') + formula.indexOf('>') + 2;
        int i = Integer.parseInt(formula.substring(0, at));
        int j = Integer.parseInt(formula.substring(at + 1));
        return x.join("&|>".indexOf(formula.charAt(at)), i, j);
    }

    private static String[] formulasOf(String list) {
        return list.isEmpty() ? new String[0] : list.split(" ");
    }

    // All that can be seen of an object with this list without changing it.
    private static List<ToIntFunction<ConstructiveDesk>> questions(String list) {
        List<ToIntFunction<ConstructiveDesk>> asked = new ArrayList<>();
        int size = formulasOf(list).length;
        asked.add(x -> x.size());
        asked.add(x -> x.worlds());
        asked.add(x -> x.closedSets());
        for (int n = 0; n < 1 << size; n++) {
            int set = n;
            asked.add(x -> x.all(set));
        }
        for (int n = 0; n < size; n++) {
            int c = n;
            asked.add(x -> x.classically(0, c));
            asked.add(x -> x.against(0, c));
            asked.add(x -> x.enough(2047 - (1 << c), c));
            for (int k = 0; k < size; k++) {
                int i = k;
                asked.add(x -> x.classically(1 << i, c));
                asked.add(x -> x.alike(i, c));
                asked.add(x -> x.saturated(1 << i | 1 << c));
                asked.add(x -> x.follows(1 << i, c));
            }
        }
        // These come last, so that a fault in them can't hide behind itself.
        for (String formula : formulasOf(list)) {
            asked.add(x -> put(x, formula));
        }
        return asked;
    }

    // The same changes on any list, so that what a refused call left behind would come to light later.
    private static List<ToIntFunction<ConstructiveDesk>> furtherUse() {
        List<ToIntFunction<ConstructiveDesk>> used = new ArrayList<>();
        for (int round = 0; round < 3; round++) {
            int drops = 1 + 4 * round;
            for (int n = 0; n < drops; n++) {
                used.add(x -> x.drop());
            }
            used.add(x -> x.atom(3));
            used.add(x -> x.all(1));
            used.add(x -> x.falsum());
            used.add(x -> x.atom(1));
            used.add(x -> x.join(2, 0, 1));
            used.add(x -> x.join(1, 1, 0));
            used.add(x -> x.join(0, 1, 1));
            for (int n = 0; n < 2048; n += 67) {
                int set = n;
                used.add(x -> x.all(set));
                used.add(x -> x.classically(set, set % 11));
                used.add(x -> x.against(set, set % 11));
            }
            used.add(x -> x.size());
            used.add(x -> x.worlds());
            used.add(x -> x.closedSets());
        }
        return used;
    }

    private static int[] answers(ConstructiveDesk x, List<ToIntFunction<ConstructiveDesk>> calls) {
        int[] answers = new int[calls.size()];
        for (int n = 0; n < answers.length; n++) {
            answers[n] = calls.get(n).applyAsInt(x);
        }
        return answers;
    }

    private static final class Looked {
        final String list;
        final List<List<ToIntFunction<ConstructiveDesk>>> lots = new ArrayList<>();
        final List<int[]> dues = new ArrayList<>();

        Looked(String list) {
            this.list = list;
            List<ToIntFunction<ConstructiveDesk>> asked = questions(list);
            for (int from = 0; from < asked.size(); from += CALLS) {
                lots.add(asked.subList(from, Math.min(asked.size(), from + CALLS)));
            }
            lots.add(furtherUse());
            for (List<ToIntFunction<ConstructiveDesk>> lot : lots) {
                dues.add(answers(desk(list), lot));
            }
        }

        void changesNothing(String name, ToIntFunction<ConstructiveDesk> call, int answer) {
            changesNothing(name, call, answer, 1);
            changesNothing(name + " three times", call, answer, 3);
        }

        private void changesNothing(String name, ToIntFunction<ConstructiveDesk> call, int answer, int times) {
            for (int l = 0; l < lots.size(); l++) {
                ConstructiveDesk x = desk(list);
                for (int n = 0; n < times; n++) {
                    due(name + " on the list " + list, call.applyAsInt(x), answer);
                }
                int[] got = answers(x, lots.get(l));
                for (int n = 0; n < got.length; n++) {
                    due("question " + n + " of lot " + l + " after " + name + " on the list " + list, got[n], dues.get(l)[n]);
                }
            }
        }
    }

    private static void badArguments(Looked on, int size) {
        for (int far : new int[] {Integer.MIN_VALUE, -1, 4, 32, Integer.MAX_VALUE}) {
            on.changesNothing("atom(" + far + ")", x -> x.atom(far), BAD_ARG);
        }
        for (int far : new int[] {-1, 3, 4, Integer.MAX_VALUE}) {
            on.changesNothing("join(" + far + ", 0, 0)", x -> x.join(far, 0, 0), BAD_ARG);
        }
        for (int far : new int[] {Integer.MIN_VALUE, -1, size, size + 32}) {
            on.changesNothing("join(0, " + far + ", 0)", x -> x.join(0, far, 0), BAD_ARG);
            on.changesNothing("join(1, 0, " + far + ")", x -> x.join(1, 0, far), BAD_ARG);
            on.changesNothing("join(2, " + far + ", " + far + ")", x -> x.join(2, far, far), BAD_ARG);
            on.changesNothing("follows(1, " + far + ")", x -> x.follows(1, far), BAD_ARG);
            on.changesNothing("classically(1, " + far + ")", x -> x.classically(1, far), BAD_ARG);
            on.changesNothing("alike(0, " + far + ")", x -> x.alike(0, far), BAD_ARG);
            on.changesNothing("alike(" + far + ", 0)", x -> x.alike(far, 0), BAD_ARG);
            on.changesNothing("enough(1, " + far + ")", x -> x.enough(1, far), BAD_ARG);
            on.changesNothing("against(1, " + far + ")", x -> x.against(1, far), BAD_ARG);
        }
    }

    private static void noRoom(Looked on) {
        if (!on.list.contains("f")) {
            on.changesNothing("falsum()", x -> x.falsum(), FULL);
        }
        if (!on.list.contains("s")) {
            on.changesNothing("atom(3)", x -> x.atom(3), FULL);
        }
        for (int op = 0; op < 3; op++) {
            int by = op;
            on.changesNothing("join(" + by + ", 10, 10)", x -> x.join(by, 10, 10), FULL);
            on.changesNothing("join(" + by + ", 10, 0)", x -> x.join(by, 10, 0), FULL);
        }
    }

    private static void noneThere(Looked on, int size) {
        if (size == 0) {
            on.changesNothing("drop()", x -> x.drop(), NONE);
            return;
        }
        on.changesNothing("against(2047, 0)", x -> x.against(2047, 0), NONE);
        on.changesNothing("against(2047, the last)", x -> x.against(2047, size - 1), NONE);
        on.changesNothing("enough(0, 0)", x -> x.enough(0, 0), NONE);
    }

    // What is there already is not put there again: an answer that is no refusal, and no change either.
    private static void thereAlready(Looked on) {
        String[] formulas = formulasOf(on.list);
        for (int f = 0; f < formulas.length; f++) {
            String formula = formulas[f];
            on.changesNothing("putting " + formula + " again", x -> put(x, formula), f);
        }
    }

    public static void main(String[] args) {
        for (String list : LISTS) {
            Looked on = new Looked(list);
            int size = formulasOf(list).length;
            due("size() of the list " + list, desk(list).size(), size);
            badArguments(on, size);
            noneThere(on, size);
            thereAlready(on);
            if (size == 11) {
                noRoom(on);
            }
        }
        System.out.println(wrong == 0 ? "all answers are as due" : wrong + " answers are not as due");
        if (wrong != 0) {
            System.exit(1);
        }
    }
}
