/** Complexes of sets of vertices, and their holes. */
public final class SimplicialDesk {
    public static final int BAD = -1;
    public static final int NONE = -2;
    public static final int UNION = 0;
    public static final int MEET = 1;
    public static final int DUAL = 2;

    private static final int REGISTERS = 4;
    private static final int VERTICES = 6;
    private static final int ALL_VERTICES = 63;
    private static final int SET_NUMBERS = 64;
    private static final int TOP_DEGREE = 5;

    /** Of six vertices there are at most 20 sets of one degree. */
    private static final int SIDE = 20;
    private static final int CELLS = 400;

    /**
     * Stands in for the field of fractions. By Hadamard's bound no minor of an
     * edge matrix on six vertices is above 1024 (degree 3: ten columns of length
     * 2), so a prime above that divides none of them but 0, and the rank is the same.
     */
    private static final int GREAT_PRIME = 1031;

    /** Far above need: each round leaves a smaller least entry. */
    private static final int MOST_ROUNDS = 1000000;

    /** The complex of each register: bit s of the number stands for the set s. */
    private final long[] held = new long[REGISTERS];

    /** The place of each set among all sets of its degree. */
    private final int[] place = new int[SET_NUMBERS];

    /** A matrix of SIDE rows one after the other, used afresh by each count. */
    private final int[] cells = new int[CELLS];

    /** 0: by a diagonal of whole numbers; 1: by rests modulo a prime. */
    private int countingLevel;

    public SimplicialDesk() {
        countingLevel = 1;
        for (int set = 1; set <= ALL_VERTICES; set++) {
            place[set] = placeInDegree(set);
        }
    }

    public int add(int r, int set) {
        if (!isRegister(r) || !isSet(set)) {
            return BAD;
        }
        for (int part = 1; part <= set; part++) {
            if (isPart(part, set)) {
                held[r] |= 1L << part;
            }
        }
        return size(held[r]);
    }

    public int take(int r, int set) {
        if (!isRegister(r) || !isSet(set)) {
            return BAD;
        }
        for (int whole = set; whole <= ALL_VERTICES; whole++) {
            if (isPart(set, whole)) {
                held[r] &= ~(1L << whole);
            }
        }
        return size(held[r]);
    }

    public boolean apply(int op, int d, int a, int b) {
        if (!isRegister(d) || !isRegister(a) || !isRegister(b)) {
            return false;
        }
        switch (op) {
            case UNION:
                held[d] = held[a] | held[b];
                return true;
            case MEET:
                held[d] = held[a] & held[b];
                return true;
            case DUAL:
                held[d] = dualOf(held[a]);
                return true;
            default:
                return false;
        }
    }

    public boolean link(int d, int a, int set) {
        if (!isRegister(d) || !isRegister(a) || !isSet(set)) {
            return false;
        }
        held[d] = linkOf(held[a], set);
        return true;
    }

    public boolean skeleton(int d, int a, int k) {
        if (!isRegister(d) || !isRegister(a) || !isDegree(k)) {
            return false;
        }
        long kept = 0;
        for (int degree = 0; degree <= k; degree++) {
            kept |= ofDegree(held[a], degree);
        }
        held[d] = kept;
        return true;
    }

    public boolean has(int r, int set) {
        return isRegister(r) && isSet(set) && isIn(held[r], set);
    }

    public int count(int r, int k) {
        if (!isRegister(r) || !isDegree(k)) {
            return BAD;
        }
        long sets = ofDegree(held[r], k);
        return size(sets);
    }

    public int balance(int r) {
        if (!isRegister(r)) {
            return 0;
        }
        int sum = 0;
        for (int degree = 0; degree <= TOP_DEGREE; degree++) {
            long sets = ofDegree(held[r], degree);
            int number = size(sets);
            sum += degree % 2 == 0 ? number : -number;
        }
        return sum;
    }

    public int facets(int r) {
        if (!isRegister(r)) {
            return BAD;
        }
        long sets = facetsOf(held[r]);
        return size(sets);
    }

    public int facet(int r, int k) {
        if (!isRegister(r)) {
            return BAD;
        }
        long sets = facetsOf(held[r]);
        int number = 0;
        for (int set = 1; set <= ALL_VERTICES; set++) {
            if (isIn(sets, set)) {
                if (number == k) {
                    return set;
                }
                number++;
            }
        }
        return NONE;
    }

    public int holes(int r, int k, int p) {
        if (!isRegister(r) || !isDegree(k) || !isField(p)) {
            return BAD;
        }
        return dimension(held[r], k, p);
    }

    public int torsion(int r, int k) {
        if (!isRegister(r) || !isDegree(k)) {
            return BAD;
        }
        writeEdges(held[r], k + 1);
        makeDiagonal();
        return diagonalProduct();
    }

    public int relative(int a, int b, int k) {
        if (!isRegister(a) || !isRegister(b) || !isDegree(k)) {
            return BAD;
        }
        return dimension(held[a] & ~held[b], k, 2);
    }

    public int surface(int r) {
        if (!isRegister(r)) {
            return BAD;
        }
        long facetSets = facetsOf(held[r]);
        int k = commonDegree(facetSets);
        if (k < 1 || !liesInTwoEach(held[r], facetSets, k)) {
            return 0;
        }
        // Two facets that share a part must have multiples that are equal but for
        // the sign. So modulo 2 each family of facets joined by such parts gives one
        // dimension, and with fractions only a family whose signs can be chosen does.
        int families = dimension(held[r], k, 2);
        int signable = dimension(held[r], k, 0);
        return signable == families ? 2 : 1;
    }

    public int pieces(int r) {
        if (!isRegister(r)) {
            return BAD;
        }
        int number = 0;
        int reached = 0;
        for (int v = 0; v < VERTICES; v++) {
            int vertex = 1 << v;
            if (isIn(held[r], vertex) && (reached & vertex) == 0) {
                number++;
                reached |= pieceAround(held[r], vertex);
            }
        }
        return number;
    }

    public boolean level(int k) {
        if (k < 0 || k > 1) {
            return false;
        }
        countingLevel = k;
        return true;
    }

    private static boolean isRegister(int r) {
        return r >= 0 && r < REGISTERS;
    }

    private static boolean isSet(int set) {
        return set >= 1 && set <= ALL_VERTICES;
    }

    private static boolean isDegree(int k) {
        return k >= 0 && k <= TOP_DEGREE;
    }

    private static boolean isField(int p) {
        return p == 0 || p == 2 || p == 3 || p == 5;
    }

    private static boolean isPart(int part, int set) {
        return (part & set) == part;
    }

    private static boolean isIn(long sets, int set) {
        return ((sets >>> set) & 1L) == 1L;
    }

    /** The number of bits: of sets in a complex, or of vertices in a set. */
    private static int size(long bits) {
        int number = 0;
        for (int i = 0; i < SET_NUMBERS; i++) {
            number += (int) ((bits >>> i) & 1L);
        }
        return number;
    }

    private static int placeInDegree(int set) {
        int vertices = size(set);
        int number = 0;
        for (int other = 1; other < set; other++) {
            if (size(other) == vertices) {
                number++;
            }
        }
        return number;
    }

    private static long ofDegree(long sets, int k) {
        long found = 0;
        for (int set = 1; set <= ALL_VERTICES; set++) {
            if (isIn(sets, set) && size(set) == k + 1) {
                found |= 1L << set;
            }
        }
        return found;
    }

    private static long dualOf(long complex) {
        long dual = 0;
        for (int set = 1; set < ALL_VERTICES; set++) {
            if (!isIn(complex, ALL_VERTICES ^ set)) {
                dual |= 1L << set;
            }
        }
        return dual;
    }

    private static long linkOf(long complex, int set) {
        long found = 0;
        for (int other = 1; other <= ALL_VERTICES; other++) {
            if ((other & set) == 0 && isIn(complex, other | set)) {
                found |= 1L << other;
            }
        }
        return found;
    }

    private static long facetsOf(long complex) {
        long found = 0;
        for (int set = 1; set <= ALL_VERTICES; set++) {
            if (isIn(complex, set) && wholes(complex, set) == 1) {
                found |= 1L << set;
            }
        }
        return found;
    }

    /** How many of the sets have this one as a part, itself among them. */
    private static int wholes(long sets, int part) {
        int number = 0;
        for (int set = part; set <= ALL_VERTICES; set++) {
            if (isIn(sets, set) && isPart(part, set)) {
                number++;
            }
        }
        return number;
    }

    /** The degree that all the sets have; NONE if there is no set or they differ. */
    private static int commonDegree(long sets) {
        for (int k = 0; k <= TOP_DEGREE; k++) {
            if (sets != 0 && ofDegree(sets, k) == sets) {
                return k;
            }
        }
        return NONE;
    }

    private static boolean liesInTwoEach(long complex, long facetSets, int k) {
        long shared = ofDegree(complex, k - 1);
        for (int set = 1; set <= ALL_VERTICES; set++) {
            if (isIn(shared, set) && wholes(facetSets, set) != 2) {
                return false;
            }
        }
        return true;
    }

    /** The vertices that chains of sets with common vertices join to this one. */
    private static int pieceAround(long complex, int vertex) {
        int reached = vertex;
        // Each round but the last one needed adds a vertex.
        for (int round = 0; round < VERTICES; round++) {
            for (int set = 1; set <= ALL_VERTICES; set++) {
                if (isIn(complex, set) && (set & reached) != 0) {
                    reached |= set;
                }
            }
        }
        return reached;
    }

    /** The dimension of H(k) with chains of these sets alone, all others counting as 0. */
    private int dimension(long sets, int k, int p) {
        long chains = ofDegree(sets, k);
        writeEdges(sets, k);
        int notClosed = rankOfEdges(p);
        writeEdges(sets, k + 1);
        int edges = rankOfEdges(p);
        return size(chains) - notClosed - edges;
    }

    /** The rank of the matrix as it was written, which is lost by this. */
    private int rankOfEdges(int p) {
        if (countingLevel == 0) {
            makeDiagonal();
            return diagonalRank(p);
        }
        return rankModulo(p == 0 ? GREAT_PRIME : p);
    }

    /** Column by column the edges of the sets of degree k. */
    private void writeEdges(long sets, int k) {
        for (int i = 0; i < CELLS; i++) {
            cells[i] = 0;
        }
        if (k < 1) {
            return;
        }
        long chains = ofDegree(sets, k);
        for (int set = 1; set <= ALL_VERTICES; set++) {
            if (isIn(chains, set)) {
                writeEdge(sets, set);
            }
        }
    }

    private void writeEdge(long sets, int set) {
        int sign = 1;
        for (int v = 0; v < VERTICES; v++) {
            int vertex = 1 << v;
            if (isPart(vertex, set)) {
                int part = set ^ vertex;
                if (isIn(sets, part)) {
                    cells[place[part] * SIDE + place[set]] = sign;
                }
                sign = -sign;
            }
        }
    }

    /** The rank over the rests; all entries stay between -prime and prime. */
    private int rankModulo(int prime) {
        int rank = 0;
        for (int column = 0; column < SIDE && rank < SIDE; column++) {
            int row = rowWithEntry(rank, column);
            if (row < SIDE) {
                swapRows(rank, row);
                clearBelow(rank, column, prime);
                rank++;
            }
        }
        return rank;
    }

    private int rowWithEntry(int firstRow, int column) {
        for (int row = firstRow; row < SIDE; row++) {
            if (cells[row * SIDE + column] != 0) {
                return row;
            }
        }
        return SIDE;
    }

    private void clearBelow(int top, int column, int prime) {
        int lead = cells[top * SIDE + column];
        for (int row = top + 1; row < SIDE; row++) {
            int factor = cells[row * SIDE + column];
            for (int c = column; c < SIDE; c++) {
                int crossed = lead * cells[row * SIDE + c] - factor * cells[top * SIDE + c];
                cells[row * SIDE + c] = crossed % prime;
            }
        }
    }

    /**
     * By steps that can be undone with whole numbers. The least entry leads, which
     * is 1 or -1 as long as there is one: so the entries stay small.
     */
    private void makeDiagonal() {
        for (int t = 0; t < SIDE; t++) {
            boolean alone = false;
            for (int round = 0; round < MOST_ROUNDS && !alone; round++) {
                int least = leastCell(t);
                swapRows(t, least / SIDE);
                swapColumns(t, least % SIDE);
                lessenRows(t);
                lessenColumns(t);
                alone = standsAlone(t);
            }
        }
    }

    /** The place of the least entry other than 0 from row and column t on; that of t, t if all are 0. */
    private int leastCell(int t) {
        int least = t * SIDE + t;
        int leastAmount = 0;
        for (int row = t; row < SIDE; row++) {
            for (int column = t; column < SIDE; column++) {
                int entry = cells[row * SIDE + column];
                int amount = entry < 0 ? -entry : entry;
                if (amount != 0 && (leastAmount == 0 || amount < leastAmount)) {
                    least = row * SIDE + column;
                    leastAmount = amount;
                }
            }
        }
        return least;
    }

    private void swapRows(int one, int other) {
        for (int column = 0; column < SIDE; column++) {
            int entry = cells[one * SIDE + column];
            cells[one * SIDE + column] = cells[other * SIDE + column];
            cells[other * SIDE + column] = entry;
        }
    }

    private void swapColumns(int one, int other) {
        for (int row = 0; row < SIDE; row++) {
            int entry = cells[row * SIDE + one];
            cells[row * SIDE + one] = cells[row * SIDE + other];
            cells[row * SIDE + other] = entry;
        }
    }

    private void lessenRows(int t) {
        int lead = cells[t * SIDE + t];
        if (lead == 0) {
            return;
        }
        for (int row = t + 1; row < SIDE; row++) {
            int times = cells[row * SIDE + t] / lead;
            for (int column = t; column < SIDE; column++) {
                cells[row * SIDE + column] -= times * cells[t * SIDE + column];
            }
        }
    }

    private void lessenColumns(int t) {
        int lead = cells[t * SIDE + t];
        if (lead == 0) {
            return;
        }
        for (int column = t + 1; column < SIDE; column++) {
            int times = cells[t * SIDE + column] / lead;
            for (int row = t; row < SIDE; row++) {
                cells[row * SIDE + column] -= times * cells[row * SIDE + t];
            }
        }
    }

    private boolean standsAlone(int t) {
        for (int i = t + 1; i < SIDE; i++) {
            if (cells[i * SIDE + t] != 0 || cells[t * SIDE + i] != 0) {
                return false;
            }
        }
        return true;
    }

    private int diagonalRank(int p) {
        int rank = 0;
        for (int t = 0; t < SIDE; t++) {
            int entry = cells[t * SIDE + t];
            if (entry != 0 && (p == 0 || entry % p != 0)) {
                rank++;
            }
        }
        return rank;
    }

    /** The product of the entries other than 0: each stands for that many elements. */
    private int diagonalProduct() {
        int product = 1;
        for (int t = 0; t < SIDE; t++) {
            int entry = cells[t * SIDE + t];
            if (entry != 0) {
                product *= entry < 0 ? -entry : entry;
            }
        }
        return product;
    }
}
