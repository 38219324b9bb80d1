// Each sentence of the document that names a boundary case, in the document's order, with a test of its own.
public final class BoundaryTest {
    private static final int BAD_ARG = -1;
    private static final int FULL = -2;
    private static final int NONE = -4;
    private static final int AND = 0;
    private static final int OR = 1;
    private static final int IMPLIES = 2;
    private static final int LEAST = Integer.MIN_VALUE;
    private static final int GREATEST = Integer.MAX_VALUE;

    // Too small or too large for a formula's number; some would wrap around to a number that is there.
    private static final int[] FAR = {
        LEAST, LEAST + 1, -2048, -64, -32, -31, -11, -4, -2, -1, 11, 12, 16, 31, 32, 33, 42, 64, 256, 2048, 65536, GREATEST
    };

    private static final String SAMPLE = "p q f 0|1 0&1 0>1 0>2";
    // Eleven formulas; atom 3 and falsum are not among them.
    private static final String BRIM = "p q r 0&1 0|1 0>1 1&1 1|1 1>1 2&1 2|1";
    // Eleven formulas; all atoms and falsum are among them.
    private static final String BRIM_WITH_FALSUM = "p q r s f 0&1 0|1 0>1 0>4 1>4 2|3";

    private static String sentence = "";
    private static int wrong = 0;

    private static void says(String words) {
        sentence = words;
    }

    private static void due(String call, int got, int want) {
        if (got != want) {
            wrong++;
            System.out.println("\"" + sentence + "\": " + call + " answered " + got + ", due is " + want);
        }
    }

    // A new object with a list: p, q, r, s are the atoms, f is falsum, 0&1, 0|1, 0>1 are joins of those two numbers.
    private static ConstructiveDesk desk(String list) {
        ConstructiveDesk x = new ConstructiveDesk();
        String[] formulas = list.isEmpty() ? new String[0] : list.split(" ");
        for (int f = 0; f < formulas.length; f++) {
            due("putting " + formulas[f] + " on the list " + list, put(x, formulas[f]), f);
        }
        return x;
    }

    private static int put(ConstructiveDesk x, String formula) {
        if (formula.equals("f")) {
            return x.falsum();
        }
        if (formula.length() == 1) {
            return x.atom("pqrs".indexOf(formula));
        }
        int at = formula.indexOf('&') + formula.indexOf('|') + formula.indexOf('>') + 2;
        int i = Integer.parseInt(formula.substring(0, at));
        int j = Integer.parseInt(formula.substring(at + 1));
        return x.join("&|>".indexOf(formula.charAt(at)), i, j);
    }

    private static int set(int... formulas) {
        int sum = 0;
        for (int f : formulas) {
            sum += 1 << f;
        }
        return sum;
    }

    public static void main(String[] args) {
        atMost512Calls();
        theConstants();
        atMost11Formulas();
        numberedFrom0();
        noFormulaTwice();
        setsFrom0To2047();
        bitsNotInTheList();
        setsOutOfRange();
        ruleMember();
        ruleFalsum();
        ruleMakeAnd();
        ruleTakeAnd();
        ruleMakeOr();
        ruleTakeOr();
        ruleMakeImplies();
        ruleTakeImplies();
        noExcludedMiddle();
        closed();
        saturated();
        trueForAChoice();
        classicallyFromNothingAndFromAll();
        noCallThrows();
        newObjectIsEmpty();
        atomRange();
        atomThere();
        atomFull();
        falsumThere();
        falsumFull();
        joinRange();
        joinThere();
        joinFull();
        dropNone();
        dropLeft();
        size();
        followsNoFormula();
        allFromEmptyAndWhole();
        classicallyNoFormula();
        alikeEachFromTheOther();
        alikeNoFormula();
        enoughLeast();
        enoughNone();
        enoughNoFormula();
        saturatedEmptyAndWhole();
        worldsEmptyAndFull();
        againstLeast();
        againstNone();
        againstNoFormula();
        closedSetsEmptyAndFull();
        System.out.println(wrong == 0 ? "all answers are as due" : wrong + " answers are not as due");
        if (wrong != 0) {
            System.exit(1);
        }
    }

    // ---- What it is

    private static void atMost512Calls() {
        says("An object is used for at most 512 calls after it has been made; what later calls answer is free.");
        ConstructiveDesk x = new ConstructiveDesk();
        for (int n = 0; n < 250; n++) {
            due("atom(" + n % 4 + "), call " + (2 * n + 1), x.atom(n % 4), 0);
            due("drop(), call " + (2 * n + 2), x.drop(), 0);
        }
        String[] formulas = BRIM.split(" ");
        for (int f = 0; f < 11; f++) {
            due("putting " + formulas[f] + ", call " + (501 + f), put(x, formulas[f]), f);
        }
        due("all(3), call 512", x.all(3), 1 + 2 + 8 + 16 + 32 + 64 + 128 + 256 + 1024);
        // Free answers, but still no throw.
        for (int n = 0; n < 3000; n++) {
            x.drop();
            x.atom(n % 4);
            x.all(n);
            x.falsum();
        }
    }

    // ---- The constants

    private static void theConstants() {
        says("The constants");
        due("BAD_ARG", ConstructiveDesk.BAD_ARG, -1);
        due("FULL", ConstructiveDesk.FULL, -2);
        due("NONE", ConstructiveDesk.NONE, -4);
    }

    // ---- Terms: the list and its sets

    private static void atMost11Formulas() {
        says("There is a LIST of at most 11 FORMULAS");
        String ten = "p q r 0&1 0|1 0>1 1&1 1|1 1>1 2&1";
        ConstructiveDesk byAtom = desk(ten);
        due("size() of ten", byAtom.size(), 10);
        due("atom(3), the eleventh", byAtom.atom(3), 10);
        due("size() of eleven", byAtom.size(), 11);
        due("falsum(), the twelfth", byAtom.falsum(), FULL);
        due("join(2, 10, 10), the twelfth", byAtom.join(IMPLIES, 10, 10), FULL);
        ConstructiveDesk byFalsum = desk(ten);
        due("falsum(), the eleventh", byFalsum.falsum(), 10);
        due("atom(3), the twelfth", byFalsum.atom(3), FULL);
        due("size() of eleven", byFalsum.size(), 11);
        for (int op = 0; op < 3; op++) {
            ConstructiveDesk byJoin = desk(ten);
            due("join(" + op + ", 9, 9), the eleventh", byJoin.join(op, 9, 9), 10);
            due("join(" + op + ", 10, 10), the twelfth", byJoin.join(op, 10, 10), FULL);
            due("size() of eleven", byJoin.size(), 11);
        }
    }

    private static void numberedFrom0() {
        says("numbered from 0 on");
        for (int a = 0; a < 4; a++) {
            ConstructiveDesk x = new ConstructiveDesk();
            due("atom(" + a + ")", x.atom(a), 0);
            due("falsum()", x.falsum(), 1);
            due("join(0, 0, 0)", x.join(AND, 0, 0), 2);
        }
        ConstructiveDesk y = new ConstructiveDesk();
        due("falsum()", y.falsum(), 0);
        due("join(2, 0, 0)", y.join(IMPLIES, 0, 0), 1);
    }

    private static void noFormulaTwice() {
        says("No formula is in the list twice.");
        for (String list : new String[] {SAMPLE, BRIM, BRIM_WITH_FALSUM}) {
            ConstructiveDesk x = desk(list);
            String[] formulas = list.split(" ");
            for (int f = formulas.length - 1; f >= 0; f--) {
                due("putting " + formulas[f] + " once more", put(x, formulas[f]), f);
            }
            due("size()", x.size(), formulas.length);
        }
        // These are all different formulas, though some have the same parts and some say the same.
        ConstructiveDesk y = desk("p f 0&1 1&0 0|1 1|0 0>1 1>0 0&0 1&1 2&0");
        due("size()", y.size(), 11);
        ConstructiveDesk z = desk("p 0&0 0|0 0>0 1&0 0&1 1&1 1|0 0|1 1>0 0>1");
        due("size()", z.size(), 11);
        // A number is given to another formula after a drop, and what is made of it is another formula too.
        ConstructiveDesk w = desk("p q 0&1");
        w.drop();
        w.drop();
        due("atom(2) in the place of q", w.atom(2), 1);
        due("join(0, 0, 1), p and r now", w.join(AND, 0, 1), 2);
        due("atom(1), not there any more", w.atom(1), 3);
        due("join(0, 0, 3), p and q", w.join(AND, 0, 3), 4);
        due("join(0, 0, 1) again", w.join(AND, 0, 1), 2);
        due("size()", w.size(), 5);
    }

    private static void setsFrom0To2047() {
        says("A set of formulas of the list is written as the sum of 2^i for their numbers i (0 to 2047");
        ConstructiveDesk x = desk(BRIM_WITH_FALSUM);
        due("all(0)", x.all(0), 0);
        due("all(2047)", x.all(2047), 2047);
        due("all(16), falsum", x.all(16), 2047);
        due("all(1024), r or s", x.all(1024), 1024);
        due("follows(1024, 10)", x.follows(1024, 10), 1);
        due("follows(227, 10), all that has nothing to do with it", x.follows(227, 10), 0);
        due("classically(1024, 10)", x.classically(1024, 10), 1);
        due("classically(0, 10)", x.classically(0, 10), 0);
        due("enough(1024, 10)", x.enough(1024, 10), 1);
        due("enough(0, 10)", x.enough(0, 10), NONE);
        due("saturated(1024), neither r nor s", x.saturated(1024), 0);
        due("saturated(1028), r", x.saturated(1028), 1);
        due("saturated(1032), s", x.saturated(1032), 1);
        due("against(1024, 2), s alone", x.against(1024, 2), 1032);
        due("against(1024, 3), r alone", x.against(1024, 3), 1028);
        due("against(2047, 0)", x.against(2047, 0), NONE);
        // A formula's number counts alone, for each number.
        for (int f = 0; f < 11; f++) {
            due("follows(" + (1 << f) + ", " + f + ")", x.follows(1 << f, f), 1);
        }
    }

    private static void bitsNotInTheList() {
        says("bits for numbers that are not in the list are not looked at");
        String[] formulas = BRIM_WITH_FALSUM.split(" ");
        for (int count = 0; count < 11; count++) {
            String list = String.join(" ", java.util.Arrays.copyOf(formulas, count));
            int listed = (1 << count) - 1;
            int beyond = 2047 - listed;
            for (int set : new int[] {0, 1 & listed, 1026 & listed, listed}) {
                // Another object each time, and a list that had those formulas before.
                ConstructiveDesk x = desk(list);
                ConstructiveDesk y = desk(BRIM_WITH_FALSUM);
                for (int left = 10; left >= count; left--) {
                    due("drop()", y.drop(), left);
                }
                String at = " of the first " + count + ", set " + set;
                sameForBoth(at + " with all beyond", x, y, set, set + beyond, count);
                sameForBoth(at + " with the next beyond", x, y, set, set + listed + 1, count);
                sameForBoth(at + " with the last beyond", x, y, set, set + 1024, count);
            }
        }
    }

    private static void sameForBoth(String at, ConstructiveDesk x, ConstructiveDesk y, int set, int more, int count) {
        due("all" + at, x.all(more), x.all(set));
        due("saturated" + at, x.saturated(more), x.saturated(set));
        due("all, after drops" + at, y.all(more), x.all(set));
        due("saturated, after drops" + at, y.saturated(more), x.saturated(set));
        due("all is within the list" + at, x.all(more) >> count, 0);
        due("worlds, after drops" + at, y.worlds(), x.worlds());
        due("closedSets, after drops" + at, y.closedSets(), x.closedSets());
        for (int c = 0; c < count; c++) {
            due("follows " + c + at, x.follows(more, c), x.follows(set, c));
            due("classically " + c + at, x.classically(more, c), x.classically(set, c));
            due("enough " + c + at, x.enough(more, c), x.enough(set, c));
            due("against " + c + at, x.against(more, c), x.against(set, c));
            due("classically, after drops " + c + at, y.classically(more, c), x.classically(set, c));
            due("against, after drops " + c + at, y.against(more, c), x.against(set, c));
        }
    }

    private static void setsOutOfRange() {
        says("bits for numbers that are not in the list are not looked at; no promise names a refusal for a set");
        int[] beyond = {2048, 4096, 65536, 1 << 30, LEAST, LEAST + 2048, -2048, -4096, GREATEST - 2047};
        String[] lists = {"", "p", "f", SAMPLE, BRIM, BRIM_WITH_FALSUM};
        for (String list : lists) {
            for (int far : beyond) {
                for (int set : new int[] {0, 1, 6, 1024, 2047}) {
                    sameFarOff(desk(list), far + set, set, " on " + list);
                }
            }
        }
        ConstructiveDesk y = desk(SAMPLE);
        due("all(-1)", y.all(-1), 127);
        due("all(-128)", y.all(-128), 0);
        due("all(-127)", y.all(-127), set(0, 3));
        due("all(greatest)", y.all(GREATEST), 127);
        due("enough(-1, 0)", y.enough(-1, 0), 1);
        due("enough(-128, 0)", y.enough(-128, 0), NONE);
        due("classically(-128, 0)", y.classically(-128, 0), 0);
        due("follows(-128, 0)", y.follows(-128, 0), 0);
        due("saturated(-128)", y.saturated(-128), 1);
        due("against(-128, 0)", y.against(-128, 0), 0);
        due("against(-1, 0)", y.against(-1, 0), NONE);
    }

    private static void sameFarOff(ConstructiveDesk x, int far, int set, String on) {
        due("all(" + far + ")" + on, x.all(far), x.all(set));
        due("saturated(" + far + ")" + on, x.saturated(far), x.saturated(set));
        int size = x.size();
        for (int c = -1; c <= size; c++) {
            String both = "(" + far + ", " + c + ")" + on;
            due("follows" + both, x.follows(far, c), x.follows(set, c));
            due("classically" + both, x.classically(far, c), x.classically(set, c));
            due("enough" + both, x.enough(far, c), x.enough(set, c));
            due("against" + both, x.against(far, c), x.against(set, c));
        }
    }

    // ---- Terms: the eight rules, each where it is the only way, and one step short of it

    private static void ruleMember() {
        says("C is in G;");
        ConstructiveDesk x = desk("p q");
        due("p from p", x.follows(set(0), 0), 1);
        due("q from q", x.follows(set(1), 1), 1);
        due("p from q", x.follows(set(1), 0), 0);
        due("q from p", x.follows(set(0), 1), 0);
        due("p from nothing", x.follows(0, 0), 0);
        due("p from both", x.follows(set(0, 1), 0), 1);
    }

    private static void ruleFalsum() {
        says("falsum follows from G;");
        ConstructiveDesk x = desk(BRIM_WITH_FALSUM);
        for (int c = 0; c < 11; c++) {
            due("formula " + c + " from falsum", x.follows(set(4), c), 1);
        }
        due("all from p and not p, falsum only following", x.all(set(0, 8)), 2047);
        due("r from p or q, not p, not q", x.follows(set(6, 8, 9), 2), 1);
        due("r from p or q, not p", x.follows(set(6, 8), 2), 0);
        due("falsum from nothing", x.follows(0, 4), 0);
        ConstructiveDesk y = desk("p f");
        due("falsum from p", y.follows(set(0), 1), 0);
        due("p from falsum, the only other one", y.follows(set(1), 0), 1);
        ConstructiveDesk z = desk("f");
        due("falsum from falsum", z.follows(set(0), 0), 1);
        due("falsum from nothing", z.follows(0, 0), 0);
        ConstructiveDesk w = desk("p q");
        due("all(1), falsum not in the list", w.all(1), 1);
        // Wherever falsum stands, the first and the last follow from it, which nothing else brings about.
        String[] atoms = {"p", "q", "r", "s"};
        for (int at = 0; at <= 4; at++) {
            ConstructiveDesk v = new ConstructiveDesk();
            for (int a = 0; a < 4; a++) {
                if (a == at) {
                    v.falsum();
                }
                put(v, atoms[a]);
            }
            due("falsum(), number " + at, v.falsum(), at);
            due("all from falsum, number " + at, v.all(set(at)), 31);
            due("all without falsum, number " + at, v.all(31 - set(at)), 31 - set(at));
        }
    }

    private static void ruleMakeAnd() {
        says("C is A and B, and both A and B follow from G;");
        ConstructiveDesk x = desk("p q 0&1 1&0 0&0 0>1 r");
        due("p and q from both", x.follows(set(0, 1), 2), 1);
        due("p and q from p", x.follows(set(0), 2), 0);
        due("p and q from q", x.follows(set(1), 2), 0);
        due("p and q from nothing", x.follows(0, 2), 0);
        due("p and q from p and r", x.follows(set(0, 6), 2), 0);
        due("p and q from q and p", x.follows(set(3), 2), 1);
        due("p and p from p", x.follows(set(0), 4), 1);
        due("p and p from q", x.follows(set(1), 4), 0);
        due("p and q from p, p implies q", x.follows(set(0, 5), 2), 1);
    }

    private static void ruleTakeAnd() {
        says("some formula follows from G that is C and B, or A and C;");
        ConstructiveDesk x = desk("p q r 0&1 2>3 2&2 2&3");
        due("p from p and q", x.follows(set(3), 0), 1);
        due("q from p and q", x.follows(set(3), 1), 1);
        due("r from p and q", x.follows(set(3), 2), 0);
        due("p from r, r implies (p and q)", x.follows(set(2, 4), 0), 1);
        due("q from r, r implies (p and q)", x.follows(set(2, 4), 1), 1);
        due("p from r implies (p and q)", x.follows(set(4), 0), 0);
        due("r from r and r", x.follows(set(5), 2), 1);
        due("q from r and (p and q)", x.follows(set(6), 1), 1);
    }

    private static void ruleMakeOr() {
        says("C is A or B, and A or B (one of the two parts) follows from G;");
        ConstructiveDesk x = desk("p q 0|1 1|0 0|0 r 0&5 1&5");
        due("p or q from p", x.follows(set(0), 2), 1);
        due("p or q from q", x.follows(set(1), 2), 1);
        due("p or q from both", x.follows(set(0, 1), 2), 1);
        due("p or q from nothing", x.follows(0, 2), 0);
        due("p or q from r", x.follows(set(5), 2), 0);
        due("p or p from p", x.follows(set(0), 4), 1);
        due("p or p from q", x.follows(set(1), 4), 0);
        due("p or q from p and r", x.follows(set(6), 2), 1);
        due("p or q from q and r", x.follows(set(7), 2), 1);
    }

    private static void ruleTakeOr() {
        says("some formula A or B follows from G, and C follows from G together with A, and from G together with B;");
        ConstructiveDesk x = desk("p q r 0|1 0>2 1>2 1|0 s 7>3");
        due("r from p or q with both implications", x.follows(set(3, 4, 5), 2), 1);
        due("r without p or q", x.follows(set(4, 5), 2), 0);
        due("r without q implies r", x.follows(set(3, 4), 2), 0);
        due("r without p implies r", x.follows(set(3, 5), 2), 0);
        due("q or p from p or q", x.follows(set(3), 6), 1);
        due("p from p or q", x.follows(set(3), 0), 0);
        due("q from p or q", x.follows(set(3), 1), 0);
        due("r, p or q only following", x.follows(set(4, 5, 7, 8), 2), 1);
        due("r, p or q not following", x.follows(set(4, 5, 8), 2), 0);
        due("r from p or q, p, q implies r: one part there, nothing new by it", x.follows(set(0, 3, 5), 2), 0);
        ConstructiveDesk y = desk("p 0|0");
        due("p from p or p", y.follows(set(1), 0), 1);
        due("p from nothing", y.follows(0, 0), 0);
        ConstructiveDesk z = desk("p f 0|1 1|0 1|1");
        due("p from p or falsum", z.follows(set(2), 0), 1);
        due("p from falsum or p", z.follows(set(3), 0), 1);
        due("falsum from p or falsum", z.follows(set(2), 1), 0);
        due("falsum from falsum or falsum", z.follows(set(4), 1), 1);
        // Cases within cases.
        ConstructiveDesk w = desk("p q r s 1|2 0|4 0>3 1>3 2>3");
        due("s by three cases", w.follows(set(5, 6, 7, 8), 3), 1);
        due("s without the first", w.follows(set(5, 7, 8), 3), 0);
        due("s without the second", w.follows(set(5, 6, 8), 3), 0);
        due("s without the third", w.follows(set(5, 6, 7), 3), 0);
        // Two disjunctions, each case of one needing the other one.
        ConstructiveDesk v = desk("p q r s 0|1 2|3 0&2 0&3 6|7 1|8");
        due("q or (p and r or p and s) from p or q, r or s", v.follows(set(4, 5), 9), 1);
        due("the same from p or q alone", v.follows(set(4), 9), 0);
        due("the same from r or s alone", v.follows(set(5), 9), 0);
    }

    private static void ruleMakeImplies() {
        says("C is A implies B, and B follows from G together with A;");
        ConstructiveDesk x = desk("p q 0>1 0>0 0&1 0>4 4>0 1>0 0>7");
        due("p implies q from q", x.follows(set(1), 2), 1);
        due("p implies q from p", x.follows(set(0), 2), 0);
        due("p implies q from nothing", x.follows(0, 2), 0);
        due("p implies p from nothing", x.follows(0, 3), 1);
        due("p implies (p and q) from q, together with p", x.follows(set(1), 5), 1);
        due("p implies (p and q) from p", x.follows(set(0), 5), 0);
        due("p implies (p and q) from nothing", x.follows(0, 5), 0);
        due("(p and q) implies p from nothing", x.follows(0, 6), 1);
        due("p implies (q implies p) from nothing", x.follows(0, 8), 1);
        due("q implies p from p implies q", x.follows(set(2), 7), 0);
        ConstructiveDesk y = desk("p f 0>1 1>0 1>1");
        due("falsum implies p from nothing", y.follows(0, 3), 1);
        due("falsum implies falsum from nothing", y.follows(0, 4), 1);
        due("not p from nothing", y.follows(0, 2), 0);
        // What was taken for the implication is given back: p does not stay.
        due("p from falsum implies p", y.follows(set(3), 0), 0);
        due("all(0)", y.all(0), set(3, 4));
    }

    private static void ruleTakeImplies() {
        says("some formula A follows from G, and A implies C follows from G.");
        ConstructiveDesk x = desk("p q 0>1 0&2 r 1>4 4&0");
        due("q from p, p implies q", x.follows(set(0, 2), 1), 1);
        due("q from p implies q", x.follows(set(2), 1), 0);
        due("q from p", x.follows(set(0), 1), 0);
        due("p from q, p implies q", x.follows(set(1, 2), 0), 0);
        due("q from p and (p implies q), both only following", x.follows(set(3), 1), 1);
        due("r from p, p implies q, q implies r", x.follows(set(0, 2, 5), 4), 1);
        due("r from p implies q, q implies r", x.follows(set(2, 5), 4), 0);
        due("q from r and p, p implies q: p only following", x.follows(set(2, 6), 1), 1);
        ConstructiveDesk y = desk("p 0>0 1>0");
        due("p from (p implies p) implies p", y.follows(set(2), 0), 1);
        // The last formulas of a full list, so that the first ones follow only after many steps.
        ConstructiveDesk z = desk("p q r s 3>2 2>1 1>0 0>4 4>5 5>6 6>7");
        due("p from s and the chain", z.follows(set(3, 4, 5, 6), 0), 1);
        due("all from s and the chain", z.all(set(3, 4, 5, 6)), 2047);
        due("p, the chain broken", z.follows(set(3, 4, 6), 0), 0);
    }

    private static void noExcludedMiddle() {
        says("rules that know nothing of excluded middle");
        ConstructiveDesk x = desk("p f 0>1 0|2 2>1 3>1 5>1 4>0");
        due("p or not p", x.follows(0, 3), 0);
        due("not not p implies p", x.follows(0, 7), 0);
        due("p from not not p", x.follows(set(4), 0), 0);
        due("not not p from p", x.follows(set(0), 4), 1);
        due("not not (p or not p)", x.follows(0, 6), 1);
        due("not (p or not p)", x.follows(0, 5), 0);
        for (int c : new int[] {3, 6, 7}) {
            due("classically, formula " + c, x.classically(0, c), 1);
        }
        ConstructiveDesk y = desk("p q 0>1 2>0 3>0");
        due("((p implies q) implies p) implies p", y.follows(0, 4), 0);
        due("the same, classically", y.classically(0, 4), 1);
        ConstructiveDesk z = desk("p q 0>1 1>0 2|3");
        due("p implies q, or q implies p", z.follows(0, 4), 0);
        due("the same, classically", z.classically(0, 4), 1);
    }

    // ---- Terms: closed, saturated, true, classically

    private static void closed() {
        says("A set is CLOSED if it has all formulas of the list that follow from it.");
        due("closedSets() of nothing", desk("").closedSets(), 1);
        due("closedSets() of p", desk("p").closedSets(), 2);
        due("closedSets() of falsum: none and all", desk("f").closedSets(), 2);
        due("closedSets() of p, falsum", desk("p f").closedSets(), 3);
        due("closedSets() of p, p implies p: never without the second", desk("p 0>0").closedSets(), 2);
        due("closedSets() of p, p and p: none or both", desk("p 0&0").closedSets(), 2);
        due("closedSets() of p, q, p and q", desk("p q 0&1").closedSets(), 4);
        due("closedSets() of p, q, p or q: that one alone too", desk("p q 0|1").closedSets(), 5);
        // {}, p implies q, p, q with p implies q, all.
        due("closedSets() of p, q, p implies q", desk("p q 0>1").closedSets(), 5);
        due("closedSets() of the four atoms", desk("p q r s").closedSets(), 16);
    }

    private static void saturated() {
        says("It is SATURATED if it is closed,");
        due("saturated({p}), p and p missing", desk("p 0&0").saturated(set(0)), 0);
        due("saturated({p, p and p})", desk("p 0&0").saturated(set(0, 1)), 1);
        due("saturated({}), p implies p missing", desk("p 0>0").saturated(0), 0);
        due("saturated({p implies p})", desk("p 0>0").saturated(set(1)), 1);
        says("has not falsum,");
        due("saturated({falsum})", desk("f").saturated(set(0)), 0);
        due("saturated({})", desk("f").saturated(0), 1);
        due("saturated({p, falsum}), closed", desk("p f").saturated(set(0, 1)), 0);
        due("saturated({p})", desk("p f").saturated(set(0)), 1);
        due("saturated(2047) with falsum", desk(BRIM_WITH_FALSUM).saturated(2047), 0);
        due("saturated(2047) without falsum", desk(BRIM).saturated(2047), 1);
        says("and has, of each A or B that it has, at least one of A and B.");
        ConstructiveDesk x = desk("p q r 0|1 1|2");
        due("none of p, q", x.saturated(set(3)), 0);
        due("p", x.saturated(set(0, 3)), 1);
        due("q", x.saturated(set(1, 3, 4)), 1);
        due("p and q", x.saturated(set(0, 1, 3, 4)), 1);
        due("p or q with p, q or r with none", x.saturated(set(0, 3, 4)), 0);
        due("q or r with r, p or q with none", x.saturated(set(2, 3, 4)), 0);
        due("both with one", x.saturated(set(0, 2, 3, 4)), 1);
        due("no disjunction", x.saturated(0), 1);
        due("all", x.saturated(31), 1);
        // A disjunction as a part of another one.
        ConstructiveDesk y = desk("p q r 0|1 3|2");
        due("(p or q) or r with p or q, which has none", y.saturated(set(3, 4)), 0);
        due("(p or q) or r alone", y.saturated(set(4)), 0);
        due("(p or q) or r with r", y.saturated(set(2, 4)), 1);
        due("(p or q) or r with p or q, p", y.saturated(set(0, 3, 4)), 1);
        due("saturated({p, p or falsum})", desk("p f 0|1").saturated(set(0, 2)), 1);
    }

    private static void trueForAChoice() {
        says("falsum never is, A and B if both are, A or B if one or both are, A implies B if A is not true or B is.");
        ConstructiveDesk x = desk("p q f 0>2 1>2 0&1 0|1 0>1 1>0");
        for (int p = 0; p < 2; p++) {
            for (int q = 0; q < 2; q++) {
                int given = (p == 1 ? set(0) : set(3)) + (q == 1 ? set(1) : set(4));
                String at = ", p is " + p + ", q is " + q;
                due("falsum" + at, x.classically(given, 2), 0);
                due("p and q" + at, x.classically(given, 5), p & q);
                due("p or q" + at, x.classically(given, 6), p | q);
                due("p implies q" + at, x.classically(given, 7), 1 - p | q);
                due("q implies p" + at, x.classically(given, 8), 1 - q | p);
            }
        }
        says("A formula is TRUE for a choice of truth for the four atoms as usual");
        ConstructiveDesk y = desk("p q r s f 0>4 1>4 2>4 3>4");
        for (int choice = 0; choice < 16; choice++) {
            int given = choice + (15 - choice) * 32;
            for (int c = 0; c < 9; c++) {
                due("classically(" + given + ", " + c + ")", y.classically(given, c), given >> c & 1);
            }
        }
    }

    private static void classicallyFromNothingAndFromAll() {
        says("C follows CLASSICALLY from G if it is true for every choice for which all formulas of G are.");
        ConstructiveDesk x = desk("p q r s f 0>4 0|5 0&5 1>0");
        for (int a = 0; a < 4; a++) {
            due("atom " + a + " from nothing", x.classically(0, a), 0);
        }
        due("falsum from nothing", x.classically(0, 4), 0);
        due("p or not p from nothing", x.classically(0, 6), 1);
        due("q implies p from nothing", x.classically(0, 8), 0);
        due("q implies p from p", x.classically(set(0), 8), 1);
        // No choice is left, so all formulas follow.
        for (int c = 0; c < 9; c++) {
            due("formula " + c + " from falsum", x.classically(set(4), c), 1);
            due("formula " + c + " from p, not p", x.classically(set(0, 5), c), 1);
            due("formula " + c + " from p and not p", x.classically(set(7), c), 1);
            due("formula " + c + " from all", x.classically(511, c), 1);
        }
        // One choice of sixteen is enough against it.
        ConstructiveDesk y = desk("p q r s 0&1 2&3 4&5 0|1 2|3 7|8");
        due("all four from any three", y.classically(set(0, 1, 2), 6), 0);
        due("all four from the four", y.classically(set(0, 1, 2, 3), 6), 1);
        due("one of four from nothing", y.classically(0, 9), 0);
        for (int a = 0; a < 4; a++) {
            due("one of four from atom " + a, y.classically(set(a), 9), 1);
            due("all four from all but atom " + a, y.classically(15 - set(a), 6), 0);
        }
    }

    // ---- Terms: no call ever throws

    private static void noCallThrows() {
        says("No call ever throws.");
        String[] formulas = BRIM_WITH_FALSUM.split(" ");
        for (int count = 0; count <= 11; count++) {
            String list = String.join(" ", java.util.Arrays.copyOf(formulas, count));
            for (int far : FAR) {
                try {
                    callAll(desk(list), far, count);
                } catch (RuntimeException | Error thrown) {
                    wrong++;
                    System.out.println("\"" + sentence + "\": with " + far + " on " + count + " formulas: " + thrown);
                }
            }
        }
    }

    private static void callAll(ConstructiveDesk x, int far, int count) {
        for (int other : new int[] {LEAST, -1, 0, count - 1, count, 11, 32, 2047, GREATEST}) {
            x.follows(far, other);
            x.follows(other, far);
            x.classically(far, other);
            x.classically(other, far);
            x.alike(far, other);
            x.alike(other, far);
            x.enough(far, other);
            x.enough(other, far);
            x.against(far, other);
            x.against(other, far);
            x.join(far, other, 0);
            x.join(other, far, 0);
            x.join(other, 0, far);
            x.join(IMPLIES, far, other);
        }
        x.all(far);
        x.saturated(far);
        x.atom(far);
        x.falsum();
        x.worlds();
        x.closedSets();
        for (int n = 0; n < 13; n++) {
            x.drop();
            x.size();
            x.worlds();
            x.closedSets();
        }
    }

    // ---- Promises 1 to 6

    private static void newObjectIsEmpty() {
        says("1: The list is empty.");
        due("size()", new ConstructiveDesk().size(), 0);
        due("drop()", new ConstructiveDesk().drop(), NONE);
        due("all(2047)", new ConstructiveDesk().all(2047), 0);
        due("worlds()", new ConstructiveDesk().worlds(), 1);
        due("closedSets()", new ConstructiveDesk().closedSets(), 1);
        due("join(0, 0, 0)", new ConstructiveDesk().join(AND, 0, 0), BAD_ARG);
        ConstructiveDesk used = desk(BRIM);
        due("size() of one made after another was filled", new ConstructiveDesk().size(), 0);
        due("atom(3) on it", new ConstructiveDesk().atom(3), 0);
        due("size() of the filled one", used.size(), 11);
    }

    private static void atomRange() {
        says("2: a not 0 to 3 answers BAD_ARG");
        for (String list : new String[] {"", SAMPLE, BRIM, BRIM_WITH_FALSUM}) {
            ConstructiveDesk x = desk(list);
            int size = x.size();
            due("atom(-1)", x.atom(-1), BAD_ARG);
            due("atom(4)", x.atom(4), BAD_ARG);
            for (int far : FAR) {
                due("atom(" + far + ")", x.atom(far), BAD_ARG);
            }
            due("size()", x.size(), size);
        }
        ConstructiveDesk y = new ConstructiveDesk();
        due("atom(0), the least", y.atom(0), 0);
        due("atom(3), the greatest", y.atom(3), 1);
    }

    private static void atomThere() {
        says("2: Answers the number of atom a, which is put at the end of the list if it is not there.");
        ConstructiveDesk x = desk("f s");
        due("atom(3), there", x.atom(3), 1);
        due("atom(0), not there", x.atom(0), 2);
        due("atom(0), there", x.atom(0), 2);
        due("size()", x.size(), 3);
        ConstructiveDesk y = desk(BRIM_WITH_FALSUM);
        for (int a = 0; a < 4; a++) {
            due("atom(" + a + "), there on a full list", y.atom(a), a);
        }
        due("size()", y.size(), 11);
        y.drop();
        due("atom(2), there, room for one", y.atom(2), 2);
        due("size()", y.size(), 10);
    }

    private static void atomFull() {
        says("2: it is not there and there is no room answers FULL.");
        ConstructiveDesk x = desk(BRIM);
        due("atom(3)", x.atom(3), FULL);
        due("atom(3) again", x.atom(3), FULL);
        due("atom(4), tested before", x.atom(4), BAD_ARG);
        due("atom(-1), tested before", x.atom(-1), BAD_ARG);
        due("size()", x.size(), 11);
        x.drop();
        due("atom(3), room for one", x.atom(3), 10);
        for (int a = 0; a < 4; a++) {
            ConstructiveDesk y = desk("f 0&0 0|0 0>0 1&0 1|0 1>0 2&0 2|0 2>0 3&0");
            due("atom(" + a + "), no atom there", y.atom(a), FULL);
        }
    }

    private static void falsumThere() {
        says("3: Answers the number of falsum, which is put at the end of the list if it is not there");
        ConstructiveDesk x = desk("p");
        due("falsum(), not there", x.falsum(), 1);
        due("falsum(), there", x.falsum(), 1);
        due("size()", x.size(), 2);
        ConstructiveDesk y = desk(BRIM_WITH_FALSUM);
        due("falsum(), there on a full list", y.falsum(), 4);
        due("size()", y.size(), 11);
    }

    private static void falsumFull() {
        says("3: FULL if it is not there and there is no room.");
        ConstructiveDesk x = desk(BRIM);
        due("falsum()", x.falsum(), FULL);
        due("falsum() again", x.falsum(), FULL);
        due("size()", x.size(), 11);
        x.drop();
        due("falsum(), room for one", x.falsum(), 10);
        due("falsum(), there on a full list", x.falsum(), 10);
    }

    private static void joinRange() {
        says("4: op not 0 to 2, or no formula i or no formula j, answers BAD_ARG");
        for (String list : new String[] {"p", SAMPLE, BRIM, BRIM_WITH_FALSUM}) {
            ConstructiveDesk x = desk(list);
            int size = x.size();
            due("join(-1, 0, 0)", x.join(-1, 0, 0), BAD_ARG);
            due("join(3, 0, 0)", x.join(3, 0, 0), BAD_ARG);
            due("join(4, 0, 0)", x.join(4, 0, 0), BAD_ARG);
            for (int op = 0; op < 3; op++) {
                due("join(" + op + ", " + size + ", 0)", x.join(op, size, 0), BAD_ARG);
                due("join(" + op + ", 0, " + size + ")", x.join(op, 0, size), BAD_ARG);
                due("join(" + op + ", -1, 0)", x.join(op, -1, 0), BAD_ARG);
                due("join(" + op + ", 0, -1)", x.join(op, 0, -1), BAD_ARG);
                for (int far : FAR) {
                    due("join(" + op + ", " + far + ", 0)", x.join(op, far, 0), BAD_ARG);
                    due("join(" + op + ", 0, " + far + ")", x.join(op, 0, far), BAD_ARG);
                    due("join(" + op + ", " + far + ", " + far + ")", x.join(op, far, far), BAD_ARG);
                }
            }
            for (int far : FAR) {
                due("join(" + far + ", 0, 0)", x.join(far, 0, 0), BAD_ARG);
            }
            due("size()", x.size(), size);
        }
        due("join(0, 0, 0) on the empty list", new ConstructiveDesk().join(AND, 0, 0), BAD_ARG);
        ConstructiveDesk y = desk("p q");
        y.drop();
        due("join(0, 0, 1), formula 1 taken off", y.join(AND, 0, 1), BAD_ARG);
        due("join(0, 1, 0), formula 1 taken off", y.join(AND, 1, 0), BAD_ARG);
        // The least and the greatest that are good, each making what it says.
        due("join(0, 0, 0)", y.join(AND, 0, 0), 1);
        due("join(2, 0, 1)", y.join(IMPLIES, 0, 1), 2);
        due("join(1, 2, 2)", y.join(OR, 2, 2), 3);
    }

    private static void joinThere() {
        says("4: it is put at the end of the list if it is not there.");
        ConstructiveDesk x = desk("p q 0&1 0|1 0>1");
        due("join(0, 0, 1), there", x.join(AND, 0, 1), 2);
        due("join(1, 0, 1), there", x.join(OR, 0, 1), 3);
        due("join(2, 0, 1), there", x.join(IMPLIES, 0, 1), 4);
        due("size()", x.size(), 5);
        due("join(0, 1, 0), another one", x.join(AND, 1, 0), 5);
        due("join(1, 1, 0), another one", x.join(OR, 1, 0), 6);
        due("join(2, 1, 0), another one", x.join(IMPLIES, 1, 0), 7);
        due("size()", x.size(), 8);
        ConstructiveDesk y = desk(BRIM);
        due("join(1, 2, 1), there on a full list, the last", y.join(OR, 2, 1), 10);
        due("join(0, 0, 1), there on a full list", y.join(AND, 0, 1), 3);
        due("size()", y.size(), 11);
        y.drop();
        due("join(1, 2, 1), taken off and put back", y.join(OR, 2, 1), 10);
    }

    private static void joinFull() {
        says("4: it is not there and there is no room answers FULL.");
        ConstructiveDesk x = desk(BRIM);
        for (int op = 0; op < 3; op++) {
            due("join(" + op + ", 10, 10)", x.join(op, 10, 10), FULL);
            due("join(" + op + ", 1, 0)", x.join(op, 1, 0), FULL);
            due("join(" + op + ", 11, 0), tested before", x.join(op, 11, 0), BAD_ARG);
            due("join(" + op + ", 0, 11), tested before", x.join(op, 0, 11), BAD_ARG);
        }
        due("join(3, 10, 10), tested before", x.join(3, 10, 10), BAD_ARG);
        due("join(-1, 10, 10), tested before", x.join(-1, 10, 10), BAD_ARG);
        due("size()", x.size(), 11);
        x.drop();
        due("join(0, 9, 9), room for one", x.join(AND, 9, 9), 10);
    }

    private static void dropNone() {
        says("5: NONE if there is none.");
        ConstructiveDesk x = new ConstructiveDesk();
        due("drop()", x.drop(), NONE);
        due("drop() again", x.drop(), NONE);
        due("size()", x.size(), 0);
        due("atom(1)", x.atom(1), 0);
        due("drop() of the only one", x.drop(), 0);
        due("drop() of none", x.drop(), NONE);
        due("size()", x.size(), 0);
    }

    private static void dropLeft() {
        says("5: Takes the last formula off the list. Otherwise how many are left.");
        ConstructiveDesk x = desk(BRIM_WITH_FALSUM);
        for (int left = 10; left >= 0; left--) {
            due("drop()", x.drop(), left);
            due("size()", x.size(), left);
            due("all(2047)", x.all(2047), (1 << left) - 1);
            due("follows(2047, " + left + ")", x.follows(2047, left), BAD_ARG);
        }
        due("drop()", x.drop(), NONE);
        // What is taken off is not there any more, whatever follows then.
        ConstructiveDesk y = desk("p f");
        due("all({falsum})", y.all(set(1)), 3);
        due("drop()", y.drop(), 1);
        due("all({that number})", y.all(set(1)), 0);
        due("atom(1) in its place", y.atom(1), 1);
        due("all({q})", y.all(set(1)), set(1));
        due("classically(q, p)", y.classically(set(1), 0), 0);
        due("saturated({q})", y.saturated(set(1)), 1);
        due("falsum()", y.falsum(), 2);
        // A longer list that was there before leaves no set behind.
        ConstructiveDesk z = desk("p q r s");
        for (int left = 3; left >= 0; left--) {
            due("drop()", z.drop(), left);
        }
        due("worlds() of the emptied list", z.worlds(), 1);
        due("closedSets() of the emptied list", z.closedSets(), 1);
        z.atom(0);
        due("join(2, 0, 0)", z.join(IMPLIES, 0, 0), 1);
        due("worlds() of p, p implies p", z.worlds(), 2);
        due("closedSets() of p, p implies p", z.closedSets(), 2);
        due("against({}, p implies p)", z.against(0, 1), NONE);
        due("enough(0, 1)", z.enough(0, 1), 0);
        due("alike(0, 1)", z.alike(0, 1), 0);
    }

    private static void size() {
        says("6: The number of formulas in the list.");
        ConstructiveDesk x = new ConstructiveDesk();
        due("size() of none", x.size(), 0);
        String[] formulas = BRIM.split(" ");
        for (int f = 0; f < 11; f++) {
            put(x, formulas[f]);
            due("size()", x.size(), f + 1);
            put(x, formulas[f]);
            due("size() after one that is there", x.size(), f + 1);
        }
        x.falsum();
        due("size() after FULL", x.size(), 11);
        x.atom(4);
        due("size() after BAD_ARG", x.size(), 11);
    }

    // ---- Promises 7 to 15

    private static void followsNoFormula() {
        says("7: BAD_ARG if there is no formula c.");
        for (String list : new String[] {"", "f", SAMPLE, BRIM, BRIM_WITH_FALSUM}) {
            ConstructiveDesk x = desk(list);
            for (int set : new int[] {0, 1, 2047, -1}) {
                due("follows(" + set + ", size)", x.follows(set, x.size()), BAD_ARG);
                for (int far : FAR) {
                    due("follows(" + set + ", " + far + ")", x.follows(set, far), BAD_ARG);
                }
            }
            if (x.size() > 0) {
                due("follows(2047, 0), the first", x.follows(2047, 0), 1);
                due("follows(2047, the last)", x.follows(2047, x.size() - 1), 1);
            }
        }
    }

    private static void allFromEmptyAndWhole() {
        says("8: The set of all formulas of the list that follow from the set.");
        due("all(0) of the empty list", desk("").all(0), 0);
        due("all(2047) of the empty list", desk("").all(2047), 0);
        due("all(0), nothing follows", desk(SAMPLE).all(0), 0);
        due("all(0), something follows", desk("p 0>0").all(0), set(1));
        due("all(0), the last follows", desk("p q r s f 4>4 0>0 1>1 2>2 3>3 4>0").all(0), 2047 - 31);
        due("all(127), the whole list", desk(SAMPLE).all(127), 127);
        due("all(2047), the whole full list", desk(BRIM).all(2047), 2047);
    }

    private static void classicallyNoFormula() {
        says("9: BAD_ARG if there is no formula c.");
        for (String list : new String[] {"", "f", SAMPLE, BRIM, BRIM_WITH_FALSUM}) {
            ConstructiveDesk x = desk(list);
            for (int set : new int[] {0, 1, 2047, -1}) {
                due("classically(" + set + ", size)", x.classically(set, x.size()), BAD_ARG);
                for (int far : FAR) {
                    due("classically(" + set + ", " + far + ")", x.classically(set, far), BAD_ARG);
                }
            }
            if (x.size() > 0) {
                due("classically(2047, 0), the first", x.classically(2047, 0), 1);
                due("classically(2047, the last)", x.classically(2047, x.size() - 1), 1);
            }
        }
    }

    private static void alikeEachFromTheOther() {
        says("10: 1 if each of the formulas i and j follows from the other one alone, else 0");
        ConstructiveDesk x = desk("p q 0&1 1&0 0|0 0>0 1>1 0>1");
        due("p and q, q and p", x.alike(2, 3), 1);
        due("q and p, p and q", x.alike(3, 2), 1);
        due("p, p or p", x.alike(0, 4), 1);
        due("one way: p, p and q", x.alike(0, 2), 0);
        due("the other way: p and q, p", x.alike(2, 0), 0);
        due("neither way: p, q", x.alike(0, 1), 0);
        due("both from nothing", x.alike(5, 6), 1);
        due("one from nothing, q implies q and p", x.alike(6, 0), 0);
        due("alone: p, p and q, though q is in the list", x.alike(0, 2), 0);
        for (int f = 0; f < 8; f++) {
            due("alike(" + f + ", " + f + ")", x.alike(f, f), 1);
        }
        ConstructiveDesk y = desk(BRIM);
        due("alike(10, 10), the last of a full list", y.alike(10, 10), 1);
        due("alike(1, 6)", y.alike(1, 6), 1);
        due("alike(10, 0)", y.alike(10, 0), 0);
        // Classically alike is not enough.
        ConstructiveDesk z = desk("p f 0>1 2>1");
        due("p, not not p", z.alike(0, 3), 0);
        due("not not p, p", z.alike(3, 0), 0);
    }

    private static void alikeNoFormula() {
        says("10: BAD_ARG if there is no formula i or no formula j.");
        for (String list : new String[] {"", "f", SAMPLE, BRIM, BRIM_WITH_FALSUM}) {
            ConstructiveDesk x = desk(list);
            int size = x.size();
            due("alike(size, 0)", x.alike(size, 0), BAD_ARG);
            due("alike(0, size)", x.alike(0, size), BAD_ARG);
            due("alike(size, size), though it is the same one", x.alike(size, size), BAD_ARG);
            for (int far : FAR) {
                due("alike(" + far + ", 0)", x.alike(far, 0), BAD_ARG);
                due("alike(0, " + far + ")", x.alike(0, far), BAD_ARG);
                due("alike(" + far + ", " + far + ")", x.alike(far, far), BAD_ARG);
            }
        }
    }

    private static void enoughLeast() {
        says("11: The least number of formulas of the set that are enough for formula c to follow from them");
        ConstructiveDesk x = desk("p q r s 0&1 2&3 4&5 0>0");
        due("none is enough, from the empty set", x.enough(0, 7), 0);
        due("none is enough, from the whole list", x.enough(255, 7), 0);
        due("none is enough, from itself", x.enough(set(7), 7), 0);
        due("itself", x.enough(set(6), 6), 1);
        due("four", x.enough(set(0, 1, 2, 3), 6), 4);
        due("three", x.enough(set(0, 1, 2, 3, 4), 6), 3);
        due("two", x.enough(set(0, 1, 2, 3, 4, 5), 6), 2);
        due("one", x.enough(set(0, 1, 2, 3, 4, 5, 6), 6), 1);
        due("one, the last bit", x.enough(2047, 6), 1);
        // The least is not the first found, and not one that could be left out last.
        ConstructiveDesk y = desk("p q 0>1 r 3>1 0&3 5>1 f");
        due("two ways, two each", y.enough(set(0, 2, 3, 4), 1), 2);
        due("falsum alone", y.enough(set(0, 2, 3, 4, 7), 1), 1);
        due("q itself", y.enough(set(0, 1, 2), 1), 1);
        due("three: p, r, (p and r) implies q", y.enough(set(0, 3, 6), 1), 3);
        due("three or two", y.enough(set(0, 2, 3, 6), 1), 2);
        // A chain in a full list.
        ConstructiveDesk z = desk("p q r s 0>1 1>2 2>3 4&5 3&3 3|3 3>0");
        due("p, p implies q, q implies r, r implies s", z.enough(set(0, 4, 5, 6), 9), 4);
        due("the same with two of them joined", z.enough(set(0, 4, 5, 6, 7), 9), 3);
        due("from nearly all", z.enough(2047 - set(1, 2, 3, 8, 9), 9), 3);
        due("from all", z.enough(2047, 9), 1);
    }

    private static void enoughNone() {
        says("11: NONE if it does not follow from the set");
        ConstructiveDesk x = desk(SAMPLE);
        due("enough(0, 0), the empty set", x.enough(0, 0), NONE);
        due("enough({p or q}, p)", x.enough(set(3), 0), NONE);
        due("enough({q, p or q, p implies q, not p}, p)", x.enough(set(1, 3, 5, 6), 0), NONE);
        due("enough(1920, 0), no bit of the list", x.enough(1920, 0), NONE);
        ConstructiveDesk y = desk(BRIM);
        due("enough(all but r and what has it, r)", y.enough(511 - set(2), 2), NONE);
    }

    private static void enoughNoFormula() {
        says("11: BAD_ARG if there is no formula c, tested first.");
        for (String list : new String[] {"", "f", SAMPLE, BRIM, BRIM_WITH_FALSUM}) {
            ConstructiveDesk x = desk(list);
            for (int set : new int[] {0, 1, 2047, -1}) {
                due("enough(" + set + ", size)", x.enough(set, x.size()), BAD_ARG);
                for (int far : FAR) {
                    due("enough(" + set + ", " + far + ")", x.enough(set, far), BAD_ARG);
                }
            }
        }
    }

    private static void saturatedEmptyAndWhole() {
        says("12: 1 if the set is saturated, else 0.");
        due("saturated(0) of the empty list", desk("").saturated(0), 1);
        due("saturated(2047) of the empty list", desk("").saturated(2047), 1);
        due("saturated(0) of p", desk("p").saturated(0), 1);
        due("saturated(1) of p", desk("p").saturated(1), 1);
        due("saturated(0) of a full list, q implies q missing", desk(BRIM).saturated(0), 0);
        due("saturated(256) of a full list", desk(BRIM).saturated(256), 1);
        due("saturated(0) of a full list, nothing follows", desk(BRIM_WITH_FALSUM).saturated(0), 1);
        due("saturated(1024) of a full list, neither part", desk(BRIM_WITH_FALSUM).saturated(1024), 0);
        ConstructiveDesk x = desk("p f");
        due("saturated(2), falsum", x.saturated(2), 0);
        x.drop();
        due("saturated(2), falsum taken off", x.saturated(2), 1);
    }

    private static void worldsEmptyAndFull() {
        says("13: The number of saturated sets.");
        due("worlds() of the empty list", desk("").worlds(), 1);
        due("worlds() of falsum", desk("f").worlds(), 1);
        due("worlds() of p", desk("p").worlds(), 2);
        due("worlds() of p, falsum", desk("p f").worlds(), 2);
        due("worlds() of p implies p", desk("p 0>0").worlds(), 2);
        due("worlds() of the four atoms", desk("p q r s").worlds(), 16);
        due("worlds() of p, q, p or q", desk("p q 0|1").worlds(), 4);
        due("worlds() of a full list of atoms and conjunctions", desk("p q r s 0&1 1&2 2&3 3&4 4&5 5&6 6&7").worlds(), 16);
        due("worlds() of a full list of atoms and disjunctions", desk("p q r s 0|1 1|2 2|3 3|4 4|5 5|6 6|7").worlds(), 16);
        // With their negations in the list: each atom is there, or its negation, or neither.
        due("worlds() of three atoms with their negations", desk("p q r f 0>3 1>3 2>3").worlds(), 27);
        due("worlds() of four atoms with their negations", desk("p q r s f 0>4 1>4 2>4 3>4").worlds(), 81);
    }

    private static void againstLeast() {
        says("14: The least number of a saturated set that has all formulas of the set and not formula c");
        ConstructiveDesk x = desk(SAMPLE);
        due("against(0, 0), the empty set itself", x.against(0, 0), 0);
        due("against({p}, q), p or q with it", x.against(set(0), 1), set(0, 3));
        due("against({p or q}, falsum), the least of several", x.against(set(3), 2), set(0, 3));
        due("against({p or q}, p)", x.against(set(3), 0), set(1, 3, 5));
        due("against({p or q}, q)", x.against(set(3), 1), set(0, 3));
        due("against({not p}, p)", x.against(set(6), 0), set(5, 6));
        ConstructiveDesk y = desk(BRIM);
        due("against({}, p), q implies q alone", y.against(0, 0), set(8));
        due("against({r or q}, q)", y.against(set(10), 1), set(2, 8, 10));
        due("against({r or q}, r)", y.against(set(10), 2), set(1, 4, 5, 6, 7, 8, 10));
        due("against({q}, r), the last bit in the answer", y.against(set(1), 2), set(1, 4, 5, 6, 7, 8, 10));
        due("against({p and q}, r)", y.against(set(3), 2), set(0, 1, 3, 4, 5, 6, 7, 8, 10));
        due("against({p or q, r}, p)", y.against(set(2, 4), 0), set(1, 2, 4, 5, 6, 7, 8, 9, 10));
        // The set itself if it is saturated and has not c.
        due("against(saturated, q)", y.against(set(2, 8, 10), 1), set(2, 8, 10));
        due("against({r}, p and q), the last formula but c", y.against(set(2), 3), set(2, 8, 10));
        due("against({p}, the last)", y.against(set(0), 10), set(0, 4, 8));
        ConstructiveDesk z = desk("p f 0>1 2>1 3>0");
        due("against({not not p}, p)", z.against(set(3), 0), set(3));
        due("against({}, not not p implies p)", z.against(0, 4), 0);
    }

    private static void againstNone() {
        says("14: NONE if there is none");
        ConstructiveDesk x = desk(SAMPLE);
        due("against({p}, p)", x.against(set(0), 0), NONE);
        due("against({p, q}, p and q)", x.against(set(0, 1), 4), NONE);
        due("against({falsum}, p)", x.against(set(2), 0), NONE);
        due("against({p, not p}, q)", x.against(set(0, 6), 1), NONE);
        due("against(127, 0)", x.against(127, 0), NONE);
        due("against(2047, 6)", x.against(2047, 6), NONE);
        due("against({}, p implies p)", desk("p 0>0").against(0, 1), NONE);
        due("against({falsum}, falsum)", desk("f").against(1, 0), NONE);
        due("against({}, falsum)", desk("f").against(0, 0), 0);
        due("against(2047, 10)", desk(BRIM).against(2047, 10), NONE);
    }

    private static void againstNoFormula() {
        says("14: BAD_ARG if there is no formula c, tested first.");
        for (String list : new String[] {"", "f", SAMPLE, BRIM, BRIM_WITH_FALSUM}) {
            ConstructiveDesk x = desk(list);
            for (int set : new int[] {0, 1, 2047, -1}) {
                due("against(" + set + ", size)", x.against(set, x.size()), BAD_ARG);
                for (int far : FAR) {
                    due("against(" + set + ", " + far + ")", x.against(set, far), BAD_ARG);
                }
            }
        }
    }

    private static void closedSetsEmptyAndFull() {
        says("15: The number of closed sets.");
        due("closedSets() of the empty list", desk("").closedSets(), 1);
        due("closedSets() of p", desk("p").closedSets(), 2);
        due("closedSets() of falsum", desk("f").closedSets(), 2);
        due("closedSets() of the four atoms with falsum", desk("p q r s f").closedSets(), 17);
        due("closedSets() of a full list of conjunctions", desk("p q r s 0&1 1&2 2&3 3&4 4&5 5&6 6&7").closedSets(), 16);
        due("closedSets() of a full list, all alike", desk("p 0&0 0|0 1&0 1|0 2&0 2|0 3&0 3|0 4&0 4|0").closedSets(), 2);
        due("closedSets() of a full list from nothing", desk("f 0>0 1&1 1|1 1>1 2&1 2|1 2>1 3&1 3|1 3>1").closedSets(), 2);
        ConstructiveDesk x = desk("p q");
        due("closedSets() of p, q", x.closedSets(), 4);
        x.drop();
        due("closedSets(), q taken off", x.closedSets(), 2);
        x.drop();
        due("closedSets(), p taken off", x.closedSets(), 1);
    }
}
