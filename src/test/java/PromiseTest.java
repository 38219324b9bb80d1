// Each promise of the document, by hand: ordinary inputs, the edges it names, and wrong inputs.
public final class PromiseTest {
    private static final int BAD_ARG = -1;
    private static final int FULL = -2;
    private static final int NONE = -4;
    private static final int AND = 0;
    private static final int OR = 1;
    private static final int IMPLIES = 2;
    private static final int[] FAR = {Integer.MIN_VALUE, -32, -2, -1, 11, 12, 31, 32, 33, 64, Integer.MAX_VALUE};

    private static int wrong = 0;
    private static int promise = 0;

    private static void due(String call, int got, int want) {
        if (got != want) {
            wrong++;
            System.out.println("promise " + promise + ": " + call + " answered " + got + ", due is " + want);
        }
    }

    public static void main(String[] args) {
        constants();
        newObject();
        atom();
        falsum();
        join();
        drop();
        size();
        follows();
        followsRuleByRule();
        all();
        classically();
        alike();
        enough();
        saturated();
        worlds();
        against();
        closedSets();
        System.out.println(wrong == 0 ? "all answers are as due" : wrong + " answers are not as due");
        if (wrong != 0) {
            System.exit(1);
        }
    }

    private static void constants() {
        due("BAD_ARG", ConstructiveDesk.BAD_ARG, BAD_ARG);
        due("FULL", ConstructiveDesk.FULL, FULL);
        due("NONE", ConstructiveDesk.NONE, NONE);
    }

    // 0: p, 1: q, 2: falsum, 3: p or q, 4: p and q, 5: p implies q, 6: not p
    private static ConstructiveDesk sample() {
        ConstructiveDesk x = new ConstructiveDesk();
        due("atom(0)", x.atom(0), 0);
        due("atom(1)", x.atom(1), 1);
        due("falsum()", x.falsum(), 2);
        due("join(1, 0, 1)", x.join(OR, 0, 1), 3);
        due("join(0, 0, 1)", x.join(AND, 0, 1), 4);
        due("join(2, 0, 1)", x.join(IMPLIES, 0, 1), 5);
        due("join(2, 0, 2)", x.join(IMPLIES, 0, 2), 6);
        return x;
    }

    // Eleven formulas without falsum and without atom 3: three atoms and the eight joins that come first.
    private static ConstructiveDesk full() {
        ConstructiveDesk x = new ConstructiveDesk();
        x.atom(0);
        x.atom(1);
        x.atom(2);
        for (int n = 0; n < 8; n++) {
            due("join to fill the list", x.join(n % 3, n / 3, 1), 3 + n);
        }
        return x;
    }

    private static void newObject() {
        promise = 1;
        ConstructiveDesk x = new ConstructiveDesk();
        due("size()", x.size(), 0);
        due("drop()", x.drop(), NONE);
        due("all(2047)", x.all(2047), 0);
        due("saturated(0)", x.saturated(0), 1);
        due("saturated(2047)", x.saturated(2047), 1);
        due("worlds()", x.worlds(), 1);
        due("closedSets()", x.closedSets(), 1);
        due("follows(0, 0)", x.follows(0, 0), BAD_ARG);
        due("join(0, 0, 0)", x.join(AND, 0, 0), BAD_ARG);
        ConstructiveDesk y = new ConstructiveDesk();
        x.atom(2);
        due("size() of another object", y.size(), 0);
    }

    private static void atom() {
        promise = 2;
        ConstructiveDesk x = new ConstructiveDesk();
        due("atom(3)", x.atom(3), 0);
        due("atom(0)", x.atom(0), 1);
        due("atom(3) again", x.atom(3), 0);
        due("atom(4)", x.atom(4), BAD_ARG);
        due("atom(-1)", x.atom(-1), BAD_ARG);
        due("atom(least)", x.atom(Integer.MIN_VALUE), BAD_ARG);
        due("atom(greatest)", x.atom(Integer.MAX_VALUE), BAD_ARG);
        due("size()", x.size(), 2);
        due("atom(2)", x.atom(2), 2);
        due("atom(1)", x.atom(1), 3);
        due("size()", x.size(), 4);
        ConstructiveDesk y = full();
        due("atom(4), full", y.atom(4), BAD_ARG);
        due("atom(3), full", y.atom(3), FULL);
        due("atom(2), full but there", y.atom(2), 2);
        due("size()", y.size(), 11);
    }

    private static void falsum() {
        promise = 3;
        ConstructiveDesk x = new ConstructiveDesk();
        due("atom(0)", x.atom(0), 0);
        due("falsum()", x.falsum(), 1);
        due("falsum() again", x.falsum(), 1);
        due("size()", x.size(), 2);
        ConstructiveDesk y = full();
        due("falsum(), full", y.falsum(), FULL);
        due("size()", y.size(), 11);
        y.drop();
        due("falsum(), room again", y.falsum(), 10);
        due("falsum(), full but there", y.falsum(), 10);
    }

    private static void join() {
        promise = 4;
        ConstructiveDesk x = new ConstructiveDesk();
        x.atom(0);
        x.atom(1);
        due("join(0, 0, 1)", x.join(AND, 0, 1), 2);
        due("join(0, 1, 0)", x.join(AND, 1, 0), 3);
        due("join(1, 0, 1)", x.join(OR, 0, 1), 4);
        due("join(2, 0, 1)", x.join(IMPLIES, 0, 1), 5);
        due("join(2, 1, 0)", x.join(IMPLIES, 1, 0), 6);
        due("join(0, 0, 1) again", x.join(AND, 0, 1), 2);
        due("join(2, 0, 1) again", x.join(IMPLIES, 0, 1), 5);
        due("join(0, 0, 0)", x.join(AND, 0, 0), 7);
        due("join(0, 0, 0) again", x.join(AND, 0, 0), 7);
        due("join(3, 0, 0)", x.join(3, 0, 0), BAD_ARG);
        due("join(4, 0, 0)", x.join(4, 0, 0), BAD_ARG);
        due("join(-1, 0, 0)", x.join(-1, 0, 0), BAD_ARG);
        due("join(0, 8, 0)", x.join(AND, 8, 0), BAD_ARG);
        due("join(0, 0, 8)", x.join(AND, 0, 8), BAD_ARG);
        due("size()", x.size(), 8);
        for (int far : FAR) {
            due("join(0, " + far + ", 0)", x.join(AND, far, 0), BAD_ARG);
            due("join(0, 0, " + far + ")", x.join(AND, 0, far), BAD_ARG);
            due("join(" + far + ", 0, 0)", x.join(far, 0, 0), BAD_ARG);
        }
        ConstructiveDesk y = full();
        due("join(3, 0, 0), full", y.join(3, 0, 0), BAD_ARG);
        due("join(0, 11, 0), full", y.join(AND, 11, 0), BAD_ARG);
        due("join(0, 0, 11), full", y.join(AND, 0, 11), BAD_ARG);
        due("join(0, 9, 10), full", y.join(AND, 9, 10), FULL);
        due("join(0, 0, 1), full but there", y.join(AND, 0, 1), 3);
        due("size()", y.size(), 11);
    }

    private static void drop() {
        promise = 5;
        ConstructiveDesk x = sample();
        due("drop()", x.drop(), 6);
        due("follows(0, 6)", x.follows(0, 6), BAD_ARG);
        due("all(4), not p gone", x.all(4), 63);
        due("join(2, 1, 2) in its place", x.join(IMPLIES, 1, 2), 6);
        due("all(66), not q", x.all(66), 127);
        due("all(65), not q", x.all(65), 73);
        for (int left = 6; left >= 0; left--) {
            due("drop()", x.drop(), left);
        }
        due("drop() of none", x.drop(), NONE);
        due("drop() of none again", x.drop(), NONE);
        due("size()", x.size(), 0);
        due("falsum() on the emptied list", x.falsum(), 0);
        due("atom(0) after it", x.atom(0), 1);
        due("all(1)", x.all(1), 3);
        due("all(2)", x.all(2), 2);
        due("classically(2, 0)", x.classically(2, 0), 0);
    }

    private static void size() {
        promise = 6;
        ConstructiveDesk x = new ConstructiveDesk();
        due("size()", x.size(), 0);
        x.atom(1);
        due("size()", x.size(), 1);
        x.atom(1);
        due("size()", x.size(), 1);
        x.join(IMPLIES, 0, 0);
        due("size()", x.size(), 2);
        x.drop();
        due("size()", x.size(), 1);
        ConstructiveDesk y = full();
        due("size()", y.size(), 11);
        y.falsum();
        due("size()", y.size(), 11);
    }

    private static void follows() {
        promise = 7;
        ConstructiveDesk x = sample();
        due("follows(0, 0)", x.follows(0, 0), 0);
        due("follows(64, 5), p implies q from not p", x.follows(64, 5), 1);
        due("follows(65, 2)", x.follows(65, 2), 1);
        due("follows(72, 1), q from p or q and not p", x.follows(72, 1), 1);
        due("follows(72, 0)", x.follows(72, 0), 0);
        due("follows(7, 7)", x.follows(7, 7), BAD_ARG);
        for (int far : FAR) {
            due("follows(1, " + far + ")", x.follows(1, far), BAD_ARG);
        }
        due("follows(1 + 128, 0), a bit not in the list", x.follows(129, 0), 1);
        due("follows(128, 0), only a bit not in the list", x.follows(128, 0), 0);
        due("follows(1920, 0), all bits not in the list", x.follows(1920, 0), 0);
        due("follows(2047, 2)", x.follows(2047, 2), 1);
    }

    private static void followsRuleByRule() {
        ConstructiveDesk x = sample();
        due("C is in G", x.follows(1, 0), 1);
        due("anything from falsum", x.follows(4, 1), 1);
        due("A and B from both", x.follows(3, 4), 1);
        due("A and B not from A", x.follows(1, 4), 0);
        due("A and B not from B", x.follows(2, 4), 0);
        due("A from A and B", x.follows(16, 0), 1);
        due("B from A and B", x.follows(16, 1), 1);
        due("A or B from A", x.follows(1, 3), 1);
        due("A or B from B", x.follows(2, 3), 1);
        due("q from p or q, p implies q: by cases", x.follows(8 + 32, 1), 1);
        due("p not from p or q, p implies q", x.follows(8 + 32, 0), 0);
        due("A implies B from B", x.follows(2, 5), 1);
        due("A implies B not from A", x.follows(1, 5), 0);
        due("B from A and A implies B", x.follows(1 + 32, 1), 1);
        due("A not from B and A implies B", x.follows(2 + 32, 0), 0);
        // A formula that no other one has as a part still opens what is under it.
        ConstructiveDesk y = new ConstructiveDesk();
        y.atom(0);
        y.join(IMPLIES, 0, 0);
        due("p implies p from nothing", y.follows(0, 1), 1);
        // Cases within cases: p or (q or r), each implying s.
        ConstructiveDesk z = new ConstructiveDesk();
        for (int a = 0; a < 4; a++) {
            z.atom(a);
        }
        z.join(OR, 1, 2);
        z.join(OR, 0, 4);
        z.join(IMPLIES, 0, 3);
        z.join(IMPLIES, 1, 3);
        z.join(IMPLIES, 2, 3);
        int implications = 64 + 128 + 256;
        due("s by three cases", z.follows(32 + implications, 3), 1);
        due("s, one case missing", z.follows(32 + implications - 128, 3), 0);
    }

    private static void all() {
        promise = 8;
        ConstructiveDesk x = sample();
        due("all(0)", x.all(0), 0);
        due("all(1)", x.all(1), 1 + 8);
        due("all(2)", x.all(2), 2 + 8 + 32);
        due("all(3)", x.all(3), 1 + 2 + 8 + 16 + 32);
        due("all(4)", x.all(4), 127);
        due("all(8)", x.all(8), 8);
        due("all(16)", x.all(16), 1 + 2 + 8 + 16 + 32);
        due("all(32)", x.all(32), 32);
        due("all(64)", x.all(64), 32 + 64);
        due("all(72)", x.all(72), 2 + 8 + 32 + 64);
        due("all(1920)", x.all(1920), 0);
        due("all(1921)", x.all(1921), 9);
        due("all(2047)", x.all(2047), 127);
    }

    private static void classically() {
        promise = 9;
        ConstructiveDesk x = new ConstructiveDesk();
        x.atom(0);
        x.falsum();
        x.join(IMPLIES, 0, 1);
        x.join(OR, 0, 2);
        x.join(AND, 0, 2);
        due("excluded middle", x.classically(0, 3), 1);
        due("excluded middle, by the rules", x.follows(0, 3), 0);
        due("p", x.classically(0, 0), 0);
        due("falsum", x.classically(0, 1), 0);
        due("not p from p", x.classically(1, 2), 0);
        due("anything from falsum", x.classically(2, 2), 1);
        due("falsum from p and not p", x.classically(16, 1), 1);
        due("p, a bit not in the list", x.classically(32 + 1024, 0), 0);
        due("p from p, with bits not in the list", x.classically(33, 0), 1);
        due("classically(0, 5)", x.classically(0, 5), BAD_ARG);
        for (int far : FAR) {
            due("classically(0, " + far + ")", x.classically(0, far), BAD_ARG);
        }
        ConstructiveDesk y = new ConstructiveDesk();
        for (int a = 0; a < 4; a++) {
            y.atom(a);
        }
        for (int a = 0; a < 4; a++) {
            for (int b = 0; b < 4; b++) {
                due("atom " + b + " from atom " + a, y.classically(1 << a, b), a == b ? 1 : 0);
                due("atom " + b + " from all but atom " + a, y.classically(15 - (1 << a), b), a == b ? 0 : 1);
            }
        }
        everyChoiceCounts();
    }

    // The atoms and the negations of the others pin down one choice, and each formula is as it is there.
    private static void everyChoiceCounts() {
        ConstructiveDesk x = new ConstructiveDesk();
        for (int a = 0; a < 4; a++) {
            x.atom(a);
        }
        x.falsum();
        for (int a = 0; a < 4; a++) {
            due("not atom " + a, x.join(IMPLIES, a, 4), 5 + a);
        }
        for (int choice = 0; choice < 16; choice++) {
            int set = choice + (15 - choice) * 32;
            for (int c = 0; c < 9; c++) {
                due("classically(" + set + ", " + c + ")", x.classically(set, c), set >> c & 1);
            }
        }
    }

    private static void alike() {
        promise = 10;
        ConstructiveDesk x = new ConstructiveDesk();
        x.atom(0);
        x.atom(1);
        x.join(AND, 0, 1);
        x.join(AND, 1, 0);
        x.join(OR, 0, 0);
        x.join(IMPLIES, 0, 0);
        x.join(IMPLIES, 1, 1);
        due("alike(2, 3)", x.alike(2, 3), 1);
        due("alike(3, 2)", x.alike(3, 2), 1);
        due("alike(0, 4)", x.alike(0, 4), 1);
        due("alike(5, 6)", x.alike(5, 6), 1);
        due("alike(0, 0)", x.alike(0, 0), 1);
        due("alike(0, 1)", x.alike(0, 1), 0);
        due("alike(0, 2), only one way", x.alike(0, 2), 0);
        due("alike(2, 0), only the other way", x.alike(2, 0), 0);
        due("alike(0, 5)", x.alike(0, 5), 0);
        due("alike(7, 0)", x.alike(7, 0), BAD_ARG);
        due("alike(0, 7)", x.alike(0, 7), BAD_ARG);
        for (int far : FAR) {
            due("alike(" + far + ", 0)", x.alike(far, 0), BAD_ARG);
            due("alike(0, " + far + ")", x.alike(0, far), BAD_ARG);
            due("alike(" + far + ", " + far + ")", x.alike(far, far), BAD_ARG);
        }
    }

    private static void enough() {
        promise = 11;
        ConstructiveDesk x = sample();
        due("enough(1, 0)", x.enough(1, 0), 1);
        due("enough(0, 0)", x.enough(0, 0), NONE);
        due("enough(3, 4)", x.enough(3, 4), 2);
        due("enough(19, 4)", x.enough(19, 4), 1);
        due("enough(33, 4), p and p implies q", x.enough(33, 4), 2);
        due("enough(104, 1)", x.enough(104, 1), 2);
        due("enough(8, 1)", x.enough(8, 1), NONE);
        due("enough(127, 1)", x.enough(127, 1), 1);
        due("enough(1920, 0), bits not in the list", x.enough(1920, 0), NONE);
        due("enough(1921, 0), bits not in the list", x.enough(1921, 0), 1);
        due("enough(0, 7)", x.enough(0, 7), BAD_ARG);
        due("join(2, 4, 3)", x.join(IMPLIES, 4, 3), 7);
        due("enough(0, 7), from nothing", x.enough(0, 7), 0);
        due("enough(127, 7), from nothing", x.enough(127, 7), 0);
        due("enough(255, 7), itself in the set", x.enough(255, 7), 0);
        for (int far : FAR) {
            due("enough(0, " + far + ")", x.enough(0, far), BAD_ARG);
        }
        ConstructiveDesk y = new ConstructiveDesk();
        for (int a = 0; a < 4; a++) {
            y.atom(a);
        }
        y.join(AND, 0, 1);
        y.join(AND, 2, 3);
        y.join(AND, 4, 5);
        due("enough(15, 6)", y.enough(15, 6), 4);
        due("enough(31, 6)", y.enough(31, 6), 3);
        due("enough(63, 6)", y.enough(63, 6), 2);
        due("enough(127, 6)", y.enough(127, 6), 1);
    }

    private static void saturated() {
        promise = 12;
        ConstructiveDesk x = sample();
        due("saturated(0)", x.saturated(0), 1);
        due("saturated(1), not closed", x.saturated(1), 0);
        due("saturated(9)", x.saturated(9), 1);
        due("saturated(8), p or q without a part", x.saturated(8), 0);
        due("saturated(42), p or q with q alone", x.saturated(42), 1);
        due("saturated(59), p or q with both", x.saturated(59), 1);
        due("saturated(127), has falsum", x.saturated(127), 0);
        due("saturated(96)", x.saturated(96), 1);
        due("saturated(64), not closed", x.saturated(64), 0);
        due("saturated(9 + 128), a bit not in the list", x.saturated(137), 1);
        due("saturated(1920), only bits not in the list", x.saturated(1920), 1);
        ConstructiveDesk y = new ConstructiveDesk();
        y.atom(0);
        due("saturated(1), the whole list without falsum", y.saturated(1), 1);
        y.falsum();
        due("saturated(3)", y.saturated(3), 0);
        due("saturated(2)", y.saturated(2), 0);
    }

    private static void worlds() {
        promise = 13;
        ConstructiveDesk x = new ConstructiveDesk();
        due("worlds() of the empty list", x.worlds(), 1);
        x.atom(0);
        due("worlds() of p", x.worlds(), 2);
        x.atom(1);
        due("worlds() of p, q", x.worlds(), 4);
        x.join(OR, 0, 1);
        due("worlds() with p or q", x.worlds(), 4);
        x.falsum();
        due("worlds() with falsum", x.worlds(), 4);
        x.join(IMPLIES, 0, 3);
        due("worlds() with not p", x.worlds(), 6);
        ConstructiveDesk y = new ConstructiveDesk();
        y.falsum();
        due("worlds() of falsum", y.worlds(), 1);
        // Nothing but atoms and conjunctions of them: a world is a choice of atoms.
        ConstructiveDesk z = new ConstructiveDesk();
        for (int a = 0; a < 4; a++) {
            z.atom(a);
        }
        for (int n = 0; n < 7; n++) {
            z.join(AND, n, n + 1);
        }
        due("size()", z.size(), 11);
        due("worlds() of a full list", z.worlds(), 16);
    }

    private static void against() {
        promise = 14;
        ConstructiveDesk x = sample();
        due("against(0, 0)", x.against(0, 0), 0);
        due("against(1, 0)", x.against(1, 0), NONE);
        due("against(1, 1)", x.against(1, 1), 9);
        due("against(8, 0)", x.against(8, 0), 42);
        due("against(8, 1)", x.against(8, 1), 9);
        due("against(8, 2)", x.against(8, 2), 9);
        due("against(64, 0)", x.against(64, 0), 96);
        due("against(4, 0)", x.against(4, 0), NONE);
        due("against(65, 1)", x.against(65, 1), NONE);
        due("against(1921, 1), bits not in the list", x.against(1921, 1), 9);
        due("against(2047, 0)", x.against(2047, 0), NONE);
        due("against(4, 7), tested first", x.against(4, 7), BAD_ARG);
        for (int far : FAR) {
            due("against(4, " + far + ")", x.against(4, far), BAD_ARG);
        }
    }

    private static void closedSets() {
        promise = 15;
        ConstructiveDesk x = new ConstructiveDesk();
        due("closedSets() of the empty list", x.closedSets(), 1);
        x.atom(0);
        due("closedSets() of p", x.closedSets(), 2);
        x.atom(1);
        due("closedSets() of p, q", x.closedSets(), 4);
        x.join(OR, 0, 1);
        due("closedSets() with p or q", x.closedSets(), 5);
        x.falsum();
        due("closedSets() with falsum", x.closedSets(), 6);
        ConstructiveDesk y = new ConstructiveDesk();
        y.falsum();
        due("closedSets() of falsum", y.closedSets(), 2);
        y.join(IMPLIES, 0, 0);
        due("closedSets() with falsum implies falsum", y.closedSets(), 2);
    }
}
