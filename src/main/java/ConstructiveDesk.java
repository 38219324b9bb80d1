public final class ConstructiveDesk {
    public static final int BAD_ARG = -1;
    public static final int FULL = -2;
    public static final int NONE = -4;

    private static final int ROOM = 11;
    private static final int SETS = 2048;
    private static final int ATOMS = 4;

    // The first three are the numbers that join takes for op.
    private static final int AND = 0;
    private static final int OR = 1;
    private static final int IMPLIES = 2;
    private static final int ATOM = 3;
    private static final int FALSUM = 4;

    // One bit for each of the 16 choices of truth; bit a of a choice's number says whether atom a is true.
    private static final int EVERY_CHOICE = 0xFFFF;
    private static final int ATOM_0_TRUE = 0xAAAA;
    private static final int ATOM_1_TRUE = 0xCCCC;
    private static final int ATOM_2_TRUE = 0xF0F0;
    private static final int ATOM_3_TRUE = 0xFF00;

    private final int[] shape = new int[ROOM];
    private final int[] left = new int[ROOM];
    private final int[] right = new int[ROOM];
    private final int[] truth = new int[ROOM];
    private final int[] consequences = new int[SETS];
    private int count;

    public ConstructiveDesk() {
        count = 0;
    }

    public int atom(int a) {
        if (a < 0 || a >= ATOMS) {
            return BAD_ARG;
        }
        return numberOf(ATOM, a, a);
    }

    public int falsum() {
        return numberOf(FALSUM, 0, 0);
    }

    public int join(int op, int i, int j) {
        if (op < AND || op > IMPLIES || !isListed(i) || !isListed(j)) {
            return BAD_ARG;
        }
        return numberOf(op, i, j);
    }

    public int drop() {
        if (count == 0) {
            return NONE;
        }
        count--;
        settle();
        return count;
    }

    public int size() {
        return count;
    }

    public int follows(int set, int c) {
        if (!isListed(c)) {
            return BAD_ARG;
        }
        int given = listedPart(set);
        return has(consequences[given], c) ? 1 : 0;
    }

    public int all(int set) {
        int given = listedPart(set);
        return consequences[given];
    }

    public int classically(int set, int c) {
        if (!isListed(c)) {
            return BAD_ARG;
        }
        int choices = EVERY_CHOICE;
        for (int f = 0; f < count; f++) {
            if (has(set, f)) {
                choices &= truth[f];
            }
        }
        return (choices & ~truth[c]) == 0 ? 1 : 0;
    }

    public int alike(int i, int j) {
        if (!isListed(i) || !isListed(j)) {
            return BAD_ARG;
        }
        return has(consequences[1 << i], j) && has(consequences[1 << j], i) ? 1 : 0;
    }

    public int enough(int set, int c) {
        if (!isListed(c)) {
            return BAD_ARG;
        }
        int given = listedPart(set);
        int least = NONE;
        for (int part = 0; part <= given; part++) {
            if ((part & ~given) == 0 && has(consequences[part], c)) {
                int members = membersOf(part);
                if (least == NONE || members < least) {
                    least = members;
                }
            }
        }
        return least;
    }

    public int saturated(int set) {
        int given = listedPart(set);
        return isSaturated(given) ? 1 : 0;
    }

    public int worlds() {
        int found = 0;
        for (int set = 0; set < 1 << count; set++) {
            if (isSaturated(set)) {
                found++;
            }
        }
        return found;
    }

    public int against(int set, int c) {
        if (!isListed(c)) {
            return BAD_ARG;
        }
        int given = listedPart(set);
        for (int world = given; world < 1 << count; world++) {
            if ((given & ~world) == 0 && !has(world, c) && isSaturated(world)) {
                return world;
            }
        }
        return NONE;
    }

    public int closedSets() {
        int found = 0;
        for (int set = 0; set < 1 << count; set++) {
            if (consequences[set] == set) {
                found++;
            }
        }
        return found;
    }

    private boolean isListed(int f) {
        return f >= 0 && f < count;
    }

    private int listedPart(int set) {
        return set & ((1 << count) - 1);
    }

    private static boolean has(int set, int f) {
        return (set & (1 << f)) != 0;
    }

    private static int membersOf(int set) {
        int members = 0;
        for (int f = 0; f < ROOM; f++) {
            if (has(set, f)) {
                members++;
            }
        }
        return members;
    }

    // No formula is listed twice, so the numbers of its parts tell a joined formula from all others.
    private int numberOf(int form, int l, int r) {
        for (int f = 0; f < count; f++) {
            if (shape[f] == form && left[f] == l && right[f] == r) {
                return f;
            }
        }
        if (count >= ROOM) {
            return FULL;
        }
        shape[count] = form;
        left[count] = l;
        right[count] = r;
        truth[count] = truthOf(form, l, r);
        count++;
        settle();
        return count - 1;
    }

    private int truthOf(int form, int l, int r) {
        switch (form) {
            case AND:
                return truth[l] & truth[r];
            case OR:
                return truth[l] | truth[r];
            case IMPLIES:
                return (EVERY_CHOICE & ~truth[l]) | truth[r];
            case ATOM:
                return truthOfAtom(l);
            default:
                return 0;
        }
    }

    private static int truthOfAtom(int a) {
        switch (a) {
            case 0:
                return ATOM_0_TRUE;
            case 1:
                return ATOM_1_TRUE;
            case 2:
                return ATOM_2_TRUE;
            default:
                return ATOM_3_TRUE;
        }
    }

    // The rules look from a set only at itself and at sets with one formula more. Those have
    // greater numbers, so going down from the greatest, each is final before it is looked at.
    private void settle() {
        for (int set = (1 << count) - 1; set >= 0; set--) {
            consequences[set] = set;
            boolean grew = true;
            // Each round but the last adds a formula, so there are never more rounds than this.
            for (int round = 0; grew && round <= ROOM; round++) {
                int before = consequences[set];
                applyRules(set);
                grew = consequences[set] != before;
            }
        }
    }

    private void applyRules(int set) {
        for (int f = 0; f < count; f++) {
            if (canBeMade(set, f)) {
                consequences[set] |= 1 << f;
            }
            if ((consequences[set] & (1 << f)) != 0) {
                consequences[set] |= yieldOf(set, f);
            }
        }
    }

    private boolean canBeMade(int set, int f) {
        int known = consequences[set];
        int l = 1 << left[f];
        int r = 1 << right[f];
        switch (shape[f]) {
            case AND:
                return (known & l) != 0 && (known & r) != 0;
            case OR:
                return (known & l) != 0 || (known & r) != 0;
            case IMPLIES:
                return (consequences[set | l] & r) != 0;
            default:
                return false;
        }
    }

    // What can be had from f, which follows from the set already.
    private int yieldOf(int set, int f) {
        int l = 1 << left[f];
        int r = 1 << right[f];
        switch (shape[f]) {
            case AND:
                return l | r;
            case OR:
                return consequences[set | l] & consequences[set | r];
            case IMPLIES:
                return (consequences[set] & l) != 0 ? r : 0;
            case FALSUM:
                return (1 << count) - 1;
            default:
                return 0;
        }
    }

    private boolean isSaturated(int set) {
        if (consequences[set] != set) {
            return false;
        }
        for (int f = 0; f < count; f++) {
            if (has(set, f)) {
                if (shape[f] == FALSUM) {
                    return false;
                }
                if (shape[f] == OR && !has(set, left[f]) && !has(set, right[f])) {
                    return false;
                }
            }
        }
        return true;
    }
}
