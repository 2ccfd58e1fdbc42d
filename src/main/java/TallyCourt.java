import java.util.Arrays;

/**
 * A court of tally sticks: measures and wood, pairs, days and passings, debts,
 * the board, and what is told. Every row is made in a constructor and used
 * again, so that no call makes objects (but for the one table of fewest()).
 */
public final class TallyCourt {
    private static final int LOW = -1000000000;

    // A finding is kept as how far it lies below LOW, which is also its place in found()'s row.
    private static final int BEYOND = 1;
    private static final int NONE = 2;
    private static final int STATE = 3;
    private static final int FULL = 4;
    private static final int KIND = 5;

    private static final int PARTIES = 8;
    private static final int LAST_DAY = 9999;
    private static final int WIDEST = 5;
    private static final int MOST_WORTH = 100000;
    private static final int MOST_OF_A_WIDTH = 9;
    private static final int MOST_PIECES = 30;
    private static final int LAST_GRAIN = 99;
    private static final int NO_DUE = -1;
    private static final int PLACES = 40;
    private static final int DEEPEST = 9;
    private static final int MOST_CUTS = 20;
    private static final int CUT_FROM_DEPTH = 2;
    private static final int COMPOSED_DEPTH = 5;
    private static final int MOST_COMPOSED = 100000000;
    private static final int MOST_SLACK = 3;
    private static final int MOST_PASSINGS = 80;
    private static final int FIRST_COINS = 1000;
    private static final int MOST_COINS = 100000000;
    private static final int TERM = 30;
    private static final int LATE_PART = 20;
    private static final int MOST_COUNTERS = 1000;
    private static final int MOST_LAID = 20000;
    private static final int MOST_TOLD = 30;
    private static final int MORE_TOLD = 99;

    // The kinds, as about() tells them.
    private static final int PIECE = 0;
    private static final int STOCK = 1;
    private static final int FOIL = 2;
    private static final int MEMO = 3;

    // The states, as about() tells them.
    private static final int HELD = 0;
    private static final int LOST = 1;
    private static final int BURNT = 2;

    private final Piece[] pieces = new Piece[MOST_PIECES];
    private int pieceCount = 0;
    private final Measures measures = new Measures();
    private final Cuts cuts = new Cuts();
    private final Pairing pairing = new Pairing();
    private int leeway = 1;
    private final Passings passings = new Passings();
    private int today = 0;
    private final Debts debts = new Debts();
    private final Ring circle = new Ring();
    private final int[] purses = new int[PARTIES];
    private final Board board = new Board();
    private final int[] told = new int[MOST_TOLD];
    private int toldCount = 0;
    private final int[] findings = new int[KIND + 1];

    public TallyCourt() {
        for (int i = 0; i < MOST_PIECES; i++) {
            pieces[i] = new Piece();
        }
        Arrays.fill(purses, FIRST_COINS);
    }

    // ---- measures and wood

    public int measure(int width, int worth) {
        if (!measures.allows(width, worth)) {
            return finding(BEYOND);
        }
        board.forgetFewest();
        return measures.change(width, worth);
    }

    public int make(int grain, int party) {
        if (!within(grain, 0, LAST_GRAIN) || !isParty(party)) {
            return finding(BEYOND);
        }
        if (!hasRoomFor(1)) {
            return finding(FULL);
        }
        return addPiece(PIECE, grain, party, NO_DUE);
    }

    public int notch(int piece, int place, int width, int depth) {
        if (!isPiece(piece) || !isPlace(place) || !within(width, 1, PLACES)
                || place + width > PLACES || !within(depth, 0, DEEPEST)) {
            return finding(BEYOND);
        }
        if (pieces[piece].state == BURNT) {
            return finding(STATE);
        }
        pieces[piece].carve(place, width, depth);
        return valueOf(piece);
    }

    public int wear(int piece, int n) {
        if (!isPiece(piece) || !within(n, 1, DEEPEST)) {
            return finding(BEYOND);
        }
        if (pieces[piece].state == BURNT) {
            return finding(STATE);
        }
        return pieces[piece].wearDown(n);
    }

    public int split(int piece, int party, int due) {
        if (!isPiece(piece) || !isParty(party) || !isDay(due)) {
            return finding(BEYOND);
        }
        Piece wood = pieces[piece];
        if (wood.kind != PIECE) {
            return finding(KIND);
        }
        if (wood.state != HELD || valueOf(piece) <= 0) {
            return finding(STATE);
        }
        if (!hasRoomFor(1)) {
            return finding(FULL);
        }
        wood.kind = STOCK;
        wood.due = due;
        return addCopy(FOIL, wood, party);
    }

    public int memo(int foil, int party) {
        if (!isPiece(foil) || !isParty(party)) {
            return finding(BEYOND);
        }
        Piece wood = pieces[foil];
        if (!wood.isA(FOIL)) {
            return finding(KIND);
        }
        if (wood.state != HELD) {
            return finding(STATE);
        }
        if (!hasRoomFor(1)) {
            return finding(FULL);
        }
        return addCopy(MEMO, wood, party);
    }

    public int as(int piece, int kind) {
        if (!isPiece(piece) || !within(kind, PIECE, MEMO)) {
            return finding(BEYOND);
        }
        if (!pieces[piece].isA(kind)) {
            return finding(KIND);
        }
        return pieces[piece].grain;
    }

    public int lose(int piece, int is) {
        if (!isPiece(piece) || !within(is, 0, 1)) {
            return finding(BEYOND);
        }
        Piece wood = pieces[piece];
        if (wood.state != (is == 1 ? HELD : LOST)) {
            return finding(STATE);
        }
        wood.state = is == 1 ? LOST : HELD;
        return 1;
    }

    public int burn(int piece) {
        if (!isPiece(piece)) {
            return finding(BEYOND);
        }
        int was = pieces[piece].state;
        if (was == BURNT) {
            return finding(STATE);
        }
        pieces[piece].state = BURNT;
        return was;
    }

    public int about(int piece, int what) {
        if (!isPiece(piece)) {
            return finding(BEYOND);
        }
        Piece wood = pieces[piece];
        cuts.read(wood);
        switch (what) {
            case 0:
                return wood.kind;
            case 1:
                return wood.grain;
            case 2:
                return wood.holder;
            case 3:
                return wood.due;
            case 4:
                return wood.state;
            case 5:
                return cuts.number;
            case 6:
                return cuts.firstFault();
            case 7:
                return cuts.valueBy(measures.worths);
            default:
                return finding(BEYOND);
        }
    }

    public int depth(int piece, int place) {
        if (!isPiece(piece) || !isPlace(place)) {
            return finding(BEYOND);
        }
        return pieces[piece].depths[place];
    }

    public int cut(int piece, int i) {
        if (!isPiece(piece) || i < 0) {
            return finding(BEYOND);
        }
        cuts.read(pieces[piece]);
        if (i >= cuts.number) {
            return finding(NONE);
        }
        return 100 * cuts.places[i] + cuts.widths[i];
    }

    public int composed(int v) {
        if (!within(v, 1, MOST_COMPOSED)) {
            return finding(BEYOND);
        }
        if (!measures.compose(v)) {
            return finding(STATE);
        }
        return measures.composedCuts();
    }

    // ---- pairs

    public int slack(int n) {
        if (!within(n, 0, MOST_SLACK)) {
            return finding(BEYOND);
        }
        int was = leeway;
        leeway = n;
        return was;
    }

    public int apart(int stock, int foil) {
        if (!isPiece(stock) || !isPiece(foil)) {
            return finding(BEYOND);
        }
        Piece one = pieces[stock];
        Piece two = pieces[foil];
        if (!one.isA(STOCK) || !two.isA(FOIL)) {
            return finding(KIND);
        }
        int place = one.firstApart(two, leeway, 0, 0);
        return place == PLACES && one.grain != two.grain ? -1 : place;
    }

    public int pairs() {
        pairUp();
        return pairing.number;
    }

    public int other(int piece) {
        if (!isPiece(piece)) {
            return finding(BEYOND);
        }
        if (pieces[piece].kind == PIECE) {
            return finding(KIND);
        }
        pairUp();
        int part = pieces[piece].isA(STOCK) ? pairing.foilOf[piece] : pairing.stockOf[piece];
        return part < 0 ? finding(NONE) : part;
    }

    public int raised(int stock) {
        if (!isPiece(stock)) {
            return finding(BEYOND);
        }
        if (!pieces[stock].isA(STOCK)) {
            return finding(KIND);
        }
        pairUp();
        int sign = pieces[stock].state == HELD && pairing.foilOf[stock] < 0 ? signOfRaising(stock) : -1;
        return sign < 0 ? finding(NONE) : sign;
    }

    // ---- days and passings

    public int day(int day) {
        if (!isDay(day) || day < today) {
            return finding(BEYOND);
        }
        int wentBy = day - today;
        today = day;
        return wentBy;
    }

    public int pass(int stock, int party) {
        if (!isPiece(stock) || !isParty(party)) {
            return finding(BEYOND);
        }
        Piece wood = pieces[stock];
        if (!wood.isA(STOCK)) {
            return finding(KIND);
        }
        if (wood.state != HELD || wood.holder == party) {
            return finding(STATE);
        }
        if (passings.number >= MOST_PASSINGS) {
            return finding(FULL);
        }
        passings.add(today, stock, wood.holder, party);
        wood.holder = party;
        return passings.number;
    }

    public int holder(int piece, int day) {
        if (!isPiece(piece) || !isDay(day)) {
            return finding(BEYOND);
        }
        return passings.holderBy(day, piece, pieces[piece].firstHolder);
    }

    public int passing(int i, int what) {
        if (!within(i, 0, passings.number - 1)) {
            return finding(BEYOND);
        }
        switch (what) {
            case 0:
                return passings.days[i];
            case 1:
                return passings.stocks[i];
            case 2:
                return passings.givers[i];
            case 3:
                return passings.getters[i];
            default:
                return finding(BEYOND);
        }
    }

    // ---- debts

    public int owes(int a, int b) {
        if (!isParty(a) || !isParty(b) || a == b) {
            return finding(BEYOND);
        }
        readDebts();
        return debts.owed[a][b];
    }

    public int net(int party) {
        if (!isParty(party)) {
            return finding(BEYOND);
        }
        readDebts();
        return debts.netOf(party);
    }

    public int ring(int i) {
        if (i < -2) {
            return finding(BEYOND);
        }
        readDebts();
        circle.seek(debts.owed);
        if (circle.size == 0 || i >= circle.size) {
            return finding(NONE);
        }
        if (i == -2) {
            return circle.amount;
        }
        return i == -1 ? circle.size : circle.parties[i];
    }

    public int setOff() {
        readDebts();
        circle.seek(debts.owed);
        if (circle.size == 0) {
            return finding(NONE);
        }
        for (int i = 0; i < circle.size; i++) {
            planTakingOff(circle.parties[i], circle.behind(i));
        }
        if (!allRestsCompose()) {
            return finding(STATE);
        }
        if (!hasRoomFor(2 * debts.cutDowns())) {
            return finding(FULL);
        }
        for (int i = 0; i < circle.size; i++) {
            takeOff(circle.parties[i], circle.behind(i));
        }
        return circle.amount;
    }

    public int toPay(int stock) {
        if (!isPiece(stock)) {
            return finding(BEYOND);
        }
        if (!pieces[stock].isA(STOCK)) {
            return finding(KIND);
        }
        readDebts();
        return debts.values[stock] == 0 ? finding(NONE) : claimOf(stock);
    }

    public int pay(int stock, int v) {
        if (!isPiece(stock) || v < 1) {
            return finding(BEYOND);
        }
        if (!pieces[stock].isA(STOCK)) {
            return finding(KIND);
        }
        readDebts();
        if (debts.values[stock] == 0) {
            return finding(NONE);
        }
        int rest = claimOf(stock) - v;
        int payer = debtorOf(stock);
        if (rest < 0 || purses[payer] < v || (rest > 0 && !measures.compose(rest))) {
            return finding(STATE);
        }
        if (rest > 0 && !hasRoomFor(2)) {
            return finding(FULL);
        }
        purses[payer] -= v;
        purses[pieces[stock].holder] += v;
        leaveRest(stock, rest, Math.min(today + TERM, LAST_DAY));
        return rest;
    }

    public int purse(int party, int v) {
        if (!isParty(party) || v > MOST_COINS) {
            return finding(BEYOND);
        }
        int was = purses[party];
        if (v >= 0) {
            purses[party] = v;
        }
        return was;
    }

    // ---- the board

    public int lay(int piece) {
        if (!isPiece(piece)) {
            return finding(BEYOND);
        }
        cuts.read(pieces[piece]);
        return board.takeCuts(cuts);
    }

    public int column(int width, int n) {
        if (!within(width, 1, WIDEST) || !within(n, -1, MOST_COUNTERS)) {
            return finding(BEYOND);
        }
        int was = board.counters[width];
        if (n >= 0) {
            board.counters[width] = n;
        }
        return was;
    }

    public int reduce() {
        return board.reduceBy(measures.worths);
    }

    public int sum() {
        return board.worthBy(measures.worths);
    }

    public int fewest() {
        int worth = board.worthBy(measures.worths);
        if (!within(worth, 0, MOST_LAID)) {
            return finding(BEYOND);
        }
        int counters = board.fewestFor(worth, measures.worths);
        return counters < 0 ? finding(NONE) : counters;
    }

    // ---- what is told

    public int tell(int v) {
        if (toldCount >= MOST_TOLD) {
            return finding(FULL);
        }
        told[toldCount] = v;
        toldCount++;
        return toldCount;
    }

    public int check() {
        pairUp();
        int waiting = toldCount;
        toldCount = 0;
        int i = 0;
        for (int stock = 0; stock < pieceCount; stock++) {
            int foil = pairing.foilOf[stock];
            if (foil < 0) {
                continue;
            }
            if (i >= waiting || told[i] != foil) {
                return 1 + i;
            }
            i++;
        }
        return i < waiting ? MORE_TOLD : 0;
    }

    public int count(int what) {
        switch (what) {
            case 0:
                return pieceCount;
            case 1:
                return countOfState(HELD);
            case 2:
                return countOfState(LOST);
            case 3:
                return countOfState(BURNT);
            case 4:
                return passings.number;
            case 5:
                return today;
            case 6:
                return toldCount;
            case 7:
                readDebts();
                return debts.number;
            default:
                return finding(BEYOND);
        }
    }

    public int found(int k) {
        if (!within(k, BEYOND, KIND)) {
            return finding(BEYOND);
        }
        return findings[k];
    }

    // ---- what the calls share

    private int finding(int k) {
        findings[k]++;
        return LOW - k;
    }

    private static boolean within(int n, int least, int most) {
        return n >= least && n <= most;
    }

    // Worths and terms are never 0; the test stands here once for every quotient.
    private static int quotient(int n, int by) {
        return by > 0 ? n / by : 0;
    }

    private static boolean isParty(int party) {
        return within(party, 0, PARTIES - 1);
    }

    private static boolean isDay(int day) {
        return within(day, 0, LAST_DAY);
    }

    private static boolean isPlace(int place) {
        return within(place, 0, PLACES - 1);
    }

    private boolean isPiece(int piece) {
        return within(piece, 0, pieceCount - 1);
    }

    private boolean hasRoomFor(int newPieces) {
        return pieceCount + newPieces <= MOST_PIECES;
    }

    /** The caller has seen that there is room. */
    private int addPiece(int kind, int grain, int party, int due) {
        int number = pieceCount;
        pieces[number].begin(kind, grain, party, due);
        pieceCount++;
        return number;
    }

    private int addCopy(int kind, Piece wood, int party) {
        int number = addPiece(kind, wood.grain, party, wood.due);
        pieces[number].copyProfile(wood);
        return number;
    }

    private int valueOf(int piece) {
        cuts.read(pieces[piece]);
        return cuts.valueBy(measures.worths);
    }

    private int countOfState(int state) {
        int number = 0;
        for (int i = 0; i < pieceCount; i++) {
            if (pieces[i].state == state) {
                number++;
            }
        }
        return number;
    }

    private int newGrain() {
        for (int grain = 0; grain < LAST_GRAIN; grain++) {
            if (!isGrainKnown(grain)) {
                return grain;
            }
        }
        return LAST_GRAIN;
    }

    private boolean isGrainKnown(int grain) {
        for (int i = 0; i < pieceCount; i++) {
            if (pieces[i].grain == grain) {
                return true;
            }
        }
        return false;
    }

    private void pairUp() {
        pairing.match(pieces, pieceCount, leeway);
    }

    /** 100 times the foil and the cut's first place, or -1; the pairs have been found. */
    private int signOfRaising(int stock) {
        cuts.read(pieces[stock]);
        for (int foil = 0; foil < pieceCount; foil++) {
            if (!pieces[foil].canPairAs(FOIL) || pairing.stockOf[foil] >= 0) {
                continue;
            }
            for (int i = 0; i < cuts.number; i++) {
                int place = cuts.places[i];
                if (pieces[stock].joins(pieces[foil], leeway, place, place + cuts.widths[i])) {
                    return 100 * foil + place;
                }
            }
        }
        return -1;
    }

    private void readDebts() {
        pairUp();
        debts.clearAll();
        for (int stock = 0; stock < pieceCount; stock++) {
            if (pairing.foilOf[stock] < 0) {
                continue;
            }
            int value = valueOf(stock);
            int debtor = debtorOf(stock);
            if (value > 0 && debtor != pieces[stock].holder) {
                debts.add(stock, debtor, pieces[stock].holder, value);
            }
        }
    }

    /** The stock is of a pair. */
    private int debtorOf(int stock) {
        return pieces[pairing.foilOf[stock]].holder;
    }

    /** What is to pay of a stock's debt; the debts have been read. */
    private int claimOf(int stock) {
        int value = debts.values[stock];
        int daysLate = Math.max(0, today - pieces[pairing.foilOf[stock]].due);
        return value + quotient(daysLate, TERM) * quotient(value, LATE_PART);
    }

    private boolean isDebtOf(int stock, int debtor, int creditor) {
        return debts.values[stock] > 0 && debtorOf(stock) == debtor && pieces[stock].holder == creditor;
    }

    /** Only plans, so that setOff() can refuse before anything has changed. */
    private void planTakingOff(int debtor, int creditor) {
        int left = circle.amount;
        for (int stock = 0; stock < pieceCount; stock++) {
            if (isDebtOf(stock, debtor, creditor)) {
                int off = Math.min(left, debts.values[stock]);
                debts.rests[stock] = debts.values[stock] - off;
                left -= off;
            }
        }
    }

    private boolean allRestsCompose() {
        for (int stock = 0; stock < pieceCount; stock++) {
            if (debts.isCutDown(stock) && !measures.compose(debts.rests[stock])) {
                return false;
            }
        }
        return true;
    }

    private void takeOff(int debtor, int creditor) {
        for (int stock = 0; stock < pieceCount; stock++) {
            if (isDebtOf(stock, debtor, creditor) && debts.rests[stock] < debts.values[stock]) {
                leaveRest(stock, debts.rests[stock], pieces[pairing.foilOf[stock]].due);
            }
        }
    }

    /** Burns both parts of a debt; a rest above 0, which can be composed and has room, gets new ones. */
    private void leaveRest(int stock, int rest, int due) {
        Piece oldStock = pieces[stock];
        Piece oldFoil = pieces[pairing.foilOf[stock]];
        oldStock.state = BURNT;
        oldFoil.state = BURNT;
        if (rest > 0 && measures.compose(rest)) {
            int fresh = addPiece(STOCK, newGrain(), oldStock.holder, due);
            measures.carveComposed(pieces[fresh]);
            addCopy(FOIL, pieces[fresh], oldFoil.holder);
        }
    }

    /** A stick of any kind. */
    private static final class Piece {
        final int[] depths = new int[PLACES];
        int kind = PIECE;
        int grain = 0;
        int firstHolder = 0;
        int holder = 0;
        int due = NO_DUE;
        int state = HELD;

        Piece() {
        }

        void begin(int itsKind, int itsGrain, int party, int itsDue) {
            kind = itsKind;
            grain = itsGrain;
            firstHolder = party;
            holder = party;
            due = itsDue;
        }

        boolean isA(int wanted) {
            return wanted == PIECE || kind == wanted || (wanted == FOIL && kind == MEMO);
        }

        /** Memos stay out of the pairs, so here the kind is the very one. */
        boolean canPairAs(int veryKind) {
            return kind == veryKind && state == HELD;
        }

        void copyProfile(Piece from) {
            System.arraycopy(from.depths, 0, depths, 0, PLACES);
        }

        /** The caller has seen that the places are there. */
        void carve(int place, int width, int depthOfAll) {
            for (int i = place; i < place + width; i++) {
                depths[i] = depthOfAll;
            }
        }

        int wearDown(int n) {
            int changed = 0;
            for (int place = 0; place < PLACES; place++) {
                if (depths[place] > 0) {
                    depths[place] = Math.max(0, depths[place] - n);
                    changed++;
                }
            }
            return changed;
        }

        /** As if its own places from blankFrom to ahead of blankEnd were uncut; PLACES if none is apart. */
        int firstApart(Piece foil, int leeway, int blankFrom, int blankEnd) {
            for (int place = 0; place < PLACES; place++) {
                boolean blank = place >= blankFrom && place < blankEnd;
                int own = blank ? 0 : depths[place];
                if (Math.abs(own - foil.depths[place]) > leeway) {
                    return place;
                }
            }
            return PLACES;
        }

        boolean joins(Piece foil, int leeway, int blankFrom, int blankEnd) {
            return grain == foil.grain && firstApart(foil, leeway, blankFrom, blankEnd) == PLACES;
        }
    }

    /** The cuts of the piece that was read last. */
    private static final class Cuts {
        final int[] places = new int[MOST_CUTS];
        final int[] widths = new int[MOST_CUTS];
        int number = 0;

        Cuts() {
        }

        void read(Piece piece) {
            number = 0;
            int width = 0;
            for (int place = 0; place < PLACES; place++) {
                width = piece.depths[place] >= CUT_FROM_DEPTH ? width + 1 : 0;
                if (width == 1 && number < MOST_CUTS) {
                    places[number] = place;
                    number++;
                }
                if (width > 0) {
                    widths[number - 1] = width;
                }
            }
        }

        /** Widths never rise up to the fault, so cuts of one width stand in one run. */
        int firstFault() {
            int widthAhead = WIDEST;
            int ofThisWidth = 0;
            for (int i = 0; i < number; i++) {
                ofThisWidth = widths[i] == widthAhead ? ofThisWidth + 1 : 1;
                if (widths[i] > widthAhead || ofThisWidth > MOST_OF_A_WIDTH) {
                    return places[i];
                }
                widthAhead = widths[i];
            }
            return -1;
        }

        /** -1 with a fault; without one no cut is wider than the measures go. */
        int valueBy(int[] worths) {
            if (firstFault() >= 0) {
                return -1;
            }
            int value = 0;
            for (int i = 0; i < number; i++) {
                value += worths[widths[i]];
            }
            return value;
        }
    }

    /** The worths by width, and what a number was composed to last. */
    private static final class Measures {
        // Bounds stand at both ends, so that each width has one below and one above it.
        final int[] worths = {0, 1, 12, 240, 1200, 12000, MOST_WORTH + 1};
        final int[] ofWidth = new int[WIDEST + 1];

        Measures() {
        }

        boolean allows(int width, int worth) {
            return within(width, 1, WIDEST) && worth > worths[width - 1] && worth < worths[width + 1];
        }

        int change(int width, int worth) {
            int was = worths[width];
            worths[width] = worth;
            return was;
        }

        /** Whether v can be composed. */
        boolean compose(int v) {
            int left = v;
            // Each cut takes one place more than its width, but for the last.
            int places = -1;
            for (int width = WIDEST; width >= 1; width--) {
                ofWidth[width] = Math.min(MOST_OF_A_WIDTH, quotient(left, worths[width]));
                left -= ofWidth[width] * worths[width];
                places += ofWidth[width] * (width + 1);
            }
            return left == 0 && places <= PLACES;
        }

        int composedCuts() {
            int number = 0;
            for (int width = 1; width <= WIDEST; width++) {
                number += ofWidth[width];
            }
            return number;
        }

        /** The piece is uncut, and what was composed last can be. */
        void carveComposed(Piece piece) {
            int place = 0;
            for (int width = WIDEST; width >= 1; width--) {
                for (int i = 0; i < ofWidth[width] && place + width <= PLACES; i++) {
                    piece.carve(place, width, COMPOSED_DEPTH);
                    place += width + 1;
                }
            }
        }
    }

    /** Which stock has which foil; -1 stands for none. */
    private static final class Pairing {
        final int[] foilOf = new int[MOST_PIECES];
        final int[] stockOf = new int[MOST_PIECES];
        int number = 0;
        // Foils as bits, for each stock those that it joins.
        private final int[] joined = new int[MOST_PIECES];
        // A trial: who has each foil, which foils may be had, which were asked for already.
        private final int[] takerOf = new int[MOST_PIECES];
        private int free = 0;
        private int asked = 0;

        Pairing() {
        }

        /** A stock gets the least foil with which the stocks behind it can still make up the most pairs. */
        void match(Piece[] pieces, int pieceCount, int leeway) {
            readJoins(pieces, pieceCount, leeway);
            Arrays.fill(foilOf, -1);
            Arrays.fill(stockOf, -1);
            int open = -1;
            number = mostPairs(0, pieceCount, open);
            int left = number;
            for (int stock = 0; stock < pieceCount && left > 0; stock++) {
                int foil = leastFoil(stock, pieceCount, open, left);
                if (foil >= 0) {
                    foilOf[stock] = foil;
                    stockOf[foil] = stock;
                    open &= ~(1 << foil);
                    left--;
                }
            }
        }

        private void readJoins(Piece[] pieces, int pieceCount, int leeway) {
            Arrays.fill(joined, 0);
            for (int stock = 0; stock < pieceCount; stock++) {
                if (!pieces[stock].canPairAs(STOCK)) {
                    continue;
                }
                for (int foil = 0; foil < pieceCount; foil++) {
                    if (pieces[foil].canPairAs(FOIL) && pieces[stock].joins(pieces[foil], leeway, 0, 0)) {
                        joined[stock] |= 1 << foil;
                    }
                }
            }
        }

        private int leastFoil(int stock, int pieceCount, int open, int left) {
            for (int foil = 0; foil < pieceCount; foil++) {
                int bit = 1 << foil;
                if ((joined[stock] & open & bit) != 0
                        && mostPairs(stock + 1, pieceCount, open & ~bit) == left - 1) {
                    return foil;
                }
            }
            return -1;
        }

        /** The most pairs of stocks from one on with the foils that are open. */
        private int mostPairs(int fromStock, int pieceCount, int open) {
            Arrays.fill(takerOf, -1);
            free = open;
            int most = 0;
            for (int stock = fromStock; stock < pieceCount; stock++) {
                asked = 0;
                if ((joined[stock] & open) != 0 && takesFoil(this, stock, 0)) {
                    most++;
                }
            }
            return most;
        }

        /** Every level asks for a foil not asked for yet, so there are no more levels than pieces. */
        private static boolean takesFoil(Pairing p, int stock, int level) {
            if (level >= MOST_PIECES) {
                return false;
            }
            for (int foil = 0; foil < MOST_PIECES; foil++) {
                int bit = 1 << foil;
                if ((p.joined[stock] & p.free & ~p.asked & bit) == 0) {
                    continue;
                }
                p.asked |= bit;
                int taker = p.takerOf[foil];
                if (taker < 0 || takesFoil(p, taker, level + 1)) {
                    p.takerOf[foil] = stock;
                    return true;
                }
            }
            return false;
        }
    }

    /** The passings, by days, since the day never falls. */
    private static final class Passings {
        final int[] days = new int[MOST_PASSINGS];
        final int[] stocks = new int[MOST_PASSINGS];
        final int[] givers = new int[MOST_PASSINGS];
        final int[] getters = new int[MOST_PASSINGS];
        int number = 0;

        Passings() {
        }

        /** The caller has seen that there is room. */
        void add(int onDay, int stock, int giver, int getter) {
            days[number] = onDay;
            stocks[number] = stock;
            givers[number] = giver;
            getters[number] = getter;
            number++;
        }

        int holderBy(int lastDay, int piece, int firstHolder) {
            int known = firstHolder;
            for (int i = 0; i < number; i++) {
                if (stocks[i] == piece && days[i] <= lastDay) {
                    known = getters[i];
                }
            }
            return known;
        }
    }

    /** The debts: by stocks (value 0: of no debt), and all together from party to party. */
    private static final class Debts {
        final int[] values = new int[MOST_PIECES];
        // What a setting off leaves of each.
        final int[] rests = new int[MOST_PIECES];
        final int[][] owed = new int[PARTIES][PARTIES];
        int number = 0;

        Debts() {
        }

        void clearAll() {
            number = 0;
            Arrays.fill(values, 0);
            Arrays.fill(rests, 0);
            for (int party = 0; party < PARTIES; party++) {
                Arrays.fill(owed[party], 0);
            }
        }

        void add(int stock, int debtor, int creditor, int value) {
            values[stock] = value;
            rests[stock] = value;
            owed[debtor][creditor] += value;
            number++;
        }

        int netOf(int party) {
            int all = 0;
            for (int another = 0; another < PARTIES; another++) {
                all += owed[another][party] - owed[party][another];
            }
            return all;
        }

        boolean isCutDown(int stock) {
            return rests[stock] > 0 && rests[stock] < values[stock];
        }

        int cutDowns() {
            int all = 0;
            for (int stock = 0; stock < MOST_PIECES; stock++) {
                if (isCutDown(stock)) {
                    all++;
                }
            }
            return all;
        }
    }

    /** The ring that was sought last; size 0: there is none. */
    private static final class Ring {
        final int[] parties = new int[PARTIES];
        int size = 0;
        int amount = 0;

        Ring() {
        }

        int behind(int i) {
            return parties[i + 1 < size ? i + 1 : 0];
        }

        /** Sizes, least parties and ways are tried from the least on, so the first ring is the one. */
        void seek(int[][] owed) {
            size = 0;
            for (int trial = 2; trial <= PARTIES && size == 0; trial++) {
                for (int least = 0; least <= PARTIES - trial && size == 0; least++) {
                    parties[0] = least;
                    if (goesRound(parties, owed, trial, 1)) {
                        size = trial;
                    }
                }
            }
            amount = leastOwed(owed);
        }

        private int leastOwed(int[][] owed) {
            int least = 0;
            for (int i = 0; i < size; i++) {
                int step = owed[parties[i]][behind(i)];
                least = i == 0 ? step : Math.min(least, step);
            }
            return least;
        }

        /**
         * Whether a way of the first `known` parties can be led on to a ring; size is PARTIES at most.
         * No party is met twice: that would hold a smaller ring, and smaller ones were sought before.
         */
        private static boolean goesRound(int[] way, int[][] owed, int size, int known) {
            int last = way[known - 1];
            if (known >= size) {
                return owed[last][way[0]] > 0;
            }
            for (int next = way[0] + 1; next < PARTIES; next++) {
                if (owed[last][next] > 0) {
                    way[known] = next;
                    if (goesRound(way, owed, size, known + 1)) {
                        return true;
                    }
                }
            }
            return false;
        }
    }

    /** The chequer board; column and worth of a width stand at the width. */
    private static final class Board {
        final int[] counters = new int[WIDEST + 1];
        // Made when first asked for: by far the longest row, and most runs never need it.
        private int[] fewestOf = null;
        private int reckonedTo = 0;

        Board() {
        }

        int takeCuts(Cuts cuts) {
            int taken = 0;
            for (int i = 0; i < cuts.number; i++) {
                if (cuts.widths[i] <= WIDEST) {
                    counters[cuts.widths[i]]++;
                    taken++;
                }
            }
            return taken;
        }

        int reduceBy(int[] worths) {
            int steps = 0;
            for (int width = 1; width < WIDEST; width++) {
                int ratio = quotient(worths[width + 1], worths[width]);
                if (ratio * worths[width] == worths[width + 1]) {
                    int times = quotient(counters[width], ratio);
                    counters[width] -= times * ratio;
                    counters[width + 1] += times;
                    steps += times;
                }
            }
            return steps;
        }

        int worthBy(int[] worths) {
            int all = 0;
            for (int width = 1; width <= WIDEST; width++) {
                all += counters[width] * worths[width];
            }
            return all;
        }

        void forgetFewest() {
            reckonedTo = 0;
        }

        /** -1: it can't be laid; the worth is 0 to MOST_LAID. */
        int fewestFor(int worth, int[] worths) {
            if (fewestOf == null) {
                fewestOf = new int[MOST_LAID + 1];
            }
            for (int v = reckonedTo + 1; v <= worth; v++) {
                fewestOf[v] = oneMoreThanFewest(v, worths);
            }
            reckonedTo = Math.max(reckonedTo, worth);
            return fewestOf[worth];
        }

        private int oneMoreThanFewest(int v, int[] worths) {
            int best = -1;
            for (int width = 1; width <= WIDEST; width++) {
                int without = v - worths[width];
                if (without >= 0 && fewestOf[without] >= 0 && (best < 0 || fewestOf[without] + 1 < best)) {
                    best = fewestOf[without] + 1;
                }
            }
            return best;
        }
    }
}
