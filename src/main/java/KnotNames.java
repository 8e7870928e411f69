/**
 * Herders who are called by knots in their cords. What each call answers is told, promise by
 * promise, in the document (DOC.md); words in capitals there are plain words here.
 */
public final class KnotNames {
    public static final int BAD = -1, STATE = -2, FULL = -3, NONE = -9;
    public static final int NO = -1000000;

    private static final int NOT_SO_MANY = -5;
    private static final int FAULT_AT_START = -10;
    private static final int HOW_MANY = -1;

    private static final int MOST_HERDERS = 6;
    private static final int MOST_TURNS = 12;
    private static final int MOST_TOLD_TURNS = 8;
    private static final int MOST_LETTERS = 200;
    private static final int MOST_UNDONE = 10;
    private static final int IMAGES = 2;
    private static final int TURN_KINDS = 6;
    private static final int MOST_NEW_TURNS = 4;
    private static final int MOST_PORRIDGE = 6;
    private static final int MOST_DOGS = 99;
    private static final int ODDS = 10;

    private final Text text = new Text();
    private final Camp current = new Camp();
    private final Past past = new Past();
    private final Camp[] images = new Camp[IMAGES];
    private final boolean[] kept = new boolean[IMAGES];
    private final Lives found = new Lives();
    private final NewNames free = new NewNames();
    private final Row firstBent = new Row(2 * MOST_TURNS);
    private final Row secondBent = new Row(2 * MOST_TURNS);
    private final Row tight = new Row(MOST_TURNS);
    private final int[][] pairs = new int[MOST_TURNS + 1][MOST_TURNS + 1];
    private long asked = 0;

    public KnotNames() {
        for (int image = 0; image < IMAGES; image++) {
            images[image] = new Camp();
        }
    }

    // ---- the camp

    public int type(int letter) {
        if (!isWithin(letter, 0, 255)) {
            return BAD;
        }
        return text.append(letter) ? text.length : FULL;
    }

    public int clear() {
        int had = text.length;
        text.empty();
        return had;
    }

    public int camp() {
        int fault = text.fault();
        if (fault != Text.NO_FAULT) {
            return FAULT_AT_START - fault;
        }
        text.tell(current);
        text.empty();
        past.forget();
        for (int image = 0; image < IMAGES; image++) {
            kept[image] = false;
        }
        return current.herders;
    }

    public int name(int h, int k) {
        if (!current.has(h)) {
            return BAD;
        }
        return lengthOrTurn(current.nameOf(h), k);
    }

    public int contract(int k) {
        return lengthOrTurn(current.contract, k);
    }

    public int now(int what) {
        switch (what) {
            case 0:
                return current.named();
            case 1:
                return current.unlikeNames();
            case 2:
                return current.turns();
            case 3:
                return past.known;
            default:
                return BAD;
        }
    }

    // ---- what is done

    public int ties(int h, int turn) {
        if (!current.has(h) || !isTurn(turn)) {
            return BAD;
        }
        Row tied = current.nameOf(h);
        if (!tied.takesTight(turn)) {
            return FULL;
        }
        past.remember(current);
        tied.appendTight(turn);
        return tied.length;
    }

    public int loosens(int h) {
        if (!current.has(h)) {
            return BAD;
        }
        Row loosened = current.nameOf(h);
        if (loosened.length == 0) {
            return STATE;
        }
        past.remember(current);
        int turn = loosened.last();
        loosened.dropLast();
        return turn;
    }

    public int bends(int a, int b) {
        if (!current.has(a) || !current.has(b) || a == b) {
            return BAD;
        }
        firstBent.becomeJoined(current.nameOf(a), current.nameOf(b));
        secondBent.becomeJoined(current.nameOf(b), current.nameOf(a));
        if (firstBent.length > MOST_TURNS || secondBent.length > MOST_TURNS) {
            return FULL;
        }
        past.remember(current);
        current.nameOf(a).become(firstBent);
        current.nameOf(b).become(secondBent);
        return firstBent.length;
    }

    public int unties(int h) {
        if (!current.has(h)) {
            return BAD;
        }
        past.remember(current);
        return current.nameOf(h).empty();
    }

    public int adds(int turn) {
        if (!isTurn(turn)) {
            return BAD;
        }
        if (current.contract.length >= MOST_TURNS) {
            return FULL;
        }
        past.remember(current);
        current.contract.append(turn);
        return current.contract.length;
    }

    public int tears() {
        past.remember(current);
        return current.contract.empty();
    }

    public int undo() {
        if (past.known == 0) {
            return STATE;
        }
        past.takeBack(current);
        return past.known;
    }

    // ---- names

    public int alike(int h) {
        return current.has(h) ? current.calledLike(h) : BAD;
    }

    public int ring(int h) {
        if (!current.has(h)) {
            return BAD;
        }
        int bits = 0;
        for (int other = 0; other < current.herders; other++) {
            if (current.nameOf(h).isRingOf(current.nameOf(other))) {
                bits |= 1 << other;
            }
        }
        return bits;
    }

    public int way(int a, int b) {
        if (!current.has(a) || !current.has(b)) {
            return BAD;
        }
        Row from = current.nameOf(a);
        Row to = current.nameOf(b);
        return from.length + to.length - 2 * from.commonStart(to);
    }

    public int root(int h) {
        return current.has(h) ? current.nameOf(h).shortestRepeated() : BAD;
    }

    public int order(int h) {
        if (!current.has(h)) {
            return BAD;
        }
        int before = 0;
        for (int other = 0; other < current.herders; other++) {
            int sign = current.nameOf(other).compareWith(current.nameOf(h));
            if (sign < 0 || sign == 0 && other < h) {
                before++;
            }
        }
        return before;
    }

    // ---- cold hands, new names

    public long cold(int a, int b, int p, int what) {
        if (!current.has(a) || !current.has(b) || !isWithin(p, 0, ODDS) || !isWithin(what, 0, 1)) {
            return BAD;
        }
        Row meant = current.nameOf(a);
        Row taken = current.nameOf(b);
        if (meant.length != taken.length) {
            return leastTerms(0, 1, what);
        }
        long upper = 1;
        for (int k = 0; k < meant.length; k++) {
            upper *= takenFor(meant.at(k), taken.at(k), p);
        }
        return leastTerms(upper, power(ODDS, meant.length), what);
    }

    public int mixed(int h, int d) {
        if (!current.has(h) || !isWithin(d, 0, MOST_TURNS)) {
            return BAD;
        }
        Row own = current.nameOf(h);
        int bits = 0;
        for (int other = 0; other < current.herders; other++) {
            Row theirs = current.nameOf(other);
            if (own.length == theirs.length && own.differences(theirs) <= d) {
                bits |= 1 << other;
            }
        }
        return bits;
    }

    public int newName(int n, int d, int k) {
        if (!isWithin(n, 1, MOST_NEW_TURNS) || !isWithin(d, 1, MOST_NEW_TURNS)
                || !isWithin(k, HOW_MANY, n - 1)) {
            return BAD;
        }
        free.find(current, n, d);
        if (k == HOW_MANY) {
            return free.howMany;
        }
        return free.howMany == 0 ? NONE : free.first.at(k);
    }

    // ---- contracts, lives

    public int pulls(int what) {
        tight.becomeTight(current.contract);
        switch (what) {
            case 0:
                return tight.length == 0 ? 1 : 0;
            case 1:
                return tight.length;
            case 2:
                return current.contract.length - 2 * mostPairs(current.contract);
            case 3:
                return (current.contract.length - tight.length) / 2;
            default:
                return BAD;
        }
    }

    public int lives(int k) {
        if (k < HOW_MANY) {
            return BAD;
        }
        found.readBack(current);
        if (k == HOW_MANY) {
            return found.howMany;
        }
        if (found.howMany == 0) {
            return NONE;
        }
        return k < found.firstLength ? found.first[k] : NOT_SO_MANY;
    }

    public int next() {
        found.readBack(current);
        return found.howMany == 0 ? NONE : found.inMost();
    }

    // ---- porridge, dogs

    public int porridge(int p, int n, int k, int what) {
        if (!isWithin(p, 0, ODDS) || !isWithin(n, 0, MOST_PORRIDGE)
                || !isWithin(k, 0, MOST_PORRIDGE) || !isWithin(what, 0, 1)) {
            return BAD;
        }
        long upper = 0;
        for (int row = 0; row < 1 << n; row++) {
            int ups = Integer.bitCount(row);
            int downs = n - ups;
            // only u and d are tied, so what is left is what one of them has more than the other
            if (Math.abs(ups - downs) == k) {
                upper += power(p, ups) * power(ODDS - p, downs);
            }
        }
        return (int) leastTerms(upper, power(ODDS, n), what);
    }

    public int share(int h, int n) {
        if (!current.has(h) || !isWithin(n, 1, MOST_DOGS)) {
            return BAD;
        }
        int names = Math.max(1, current.unlikeNames());
        int called = Math.max(1, Integer.bitCount(current.calledLike(h)));
        return n / names / called;
    }

    // ---- kinds, images

    public int rate(int kind, int h) {
        if (!current.has(h)) {
            return NO;
        }
        switch (kind) {
            case 0:
                return asHerder(h);
            case 1:
                return asChief(h);
            case 2:
                return asLiar(h);
            case 3:
                return asFist(h);
            case 4:
                return asThief(h);
            case 5:
                return asWidow(h);
            default:
                return NO;
        }
    }

    public int keep(int image) {
        if (!isWithin(image, 0, IMAGES - 1)) {
            return BAD;
        }
        images[image].become(current);
        kept[image] = true;
        return current.turns();
    }

    public int back(int image) {
        if (!isWithin(image, 0, IMAGES - 1)) {
            return BAD;
        }
        if (!kept[image]) {
            return STATE;
        }
        current.become(images[image]);
        past.forget();
        return current.turns();
    }

    public int count(int what) {
        switch (what) {
            case 0:
                return current.herders;
            case 1:
                return text.length;
            default:
                return BAD;
        }
    }

    public long trace() {
        return asked;
    }

    // ---- the bodies of the kinds; each asks the one above it

    private int asHerder(int h) {
        asked += 1;
        return current.nameOf(h).length;
    }

    private int asChief(int h) {
        asked += 10;
        Row called = current.nameOf(h);
        return asHerder(h) + (called.length == 0 ? 0 : called.last());
    }

    private int asLiar(int h) {
        asked += 100;
        return asHerder(h) - Integer.bitCount(current.calledLike(h));
    }

    private int asFist(int h) {
        asked += 1000;
        return 2 * asChief(h);
    }

    private int asThief(int h) {
        asked += 10000;
        return asLiar(h) + h;
    }

    private int asWidow(int h) {
        asked += 100000;
        return asHerder(h) + current.nameOf(h).shortestRepeated();
    }

    // ---- helpers

    private static boolean isWithin(int number, int lowest, int highest) {
        return number >= lowest && number <= highest;
    }

    private static boolean isTurn(int turn) {
        return isWithin(turn, 0, TURN_KINDS - 1);
    }

    /** The turn that undoes a turn: they are numbered in twos. */
    private static int undoing(int turn) {
        return turn ^ 1;
    }

    private static int lengthOrTurn(Row row, int k) {
        if (k == HOW_MANY) {
            return row.length;
        }
        return isWithin(k, 0, row.length - 1) ? row.at(k) : BAD;
    }

    /** By how many of ten a cold hand takes one turn for another. */
    private static int takenFor(int meant, int taken, int p) {
        if (meant == taken) {
            return ODDS - p;
        }
        return taken == (meant + 1) % TURN_KINDS ? p : 0;
    }

    private static long power(int base, int exponent) {
        long product = 1;
        for (int i = 0; i < exponent; i++) {
            product *= base;
        }
        return product;
    }

    /** The upper (0) or lower (1) number of a fraction; 0 is 0 of 1. */
    private static long leastTerms(long upper, long lower, int what) {
        long common = Math.max(1, commonDivisor(upper, lower));
        return what == 0 ? upper / common : lower / common;
    }

    private static long commonDivisor(long a, long b) {
        // a remainder is less than half of what it is the remainder of: two steps for each bit
        for (int step = 0; step < 128 && b != 0; step++) {
            long rest = a % b;
            a = b;
            b = rest;
        }
        return a;
    }

    /** The most twos that go out of a row if any other turns may be cut out of it. */
    private int mostPairs(Row row) {
        int n = Math.min(row.length, MOST_TURNS);
        // pairs[from][to] is the answer for the turns from .. to - 1
        for (int from = n; from >= 0; from--) {
            pairs[from][from] = 0;
            for (int to = from + 1; to <= n; to++) {
                pairs[from][to] = mostPairsWithin(row, from, to);
            }
        }
        return pairs[0][n];
    }

    private int mostPairsWithin(Row row, int from, int to) {
        int most = pairs[from + 1][to];
        for (int partner = from + 1; partner < to; partner++) {
            if (row.at(partner) == undoing(row.at(from))) {
                most = Math.max(most, 1 + pairs[from + 1][partner] + pairs[partner + 1][to]);
            }
        }
        return most;
    }

    /** Turns in a row, as many as it has room for. */
    private static final class Row {
        private final int[] turns;
        private int length = 0;

        private Row(int room) {
            turns = new int[Math.max(0, room)];
        }

        private int at(int k) {
            return k >= 0 && k < length ? turns[k] : NONE;
        }

        private int last() {
            return at(length - 1);
        }

        private int empty() {
            int had = length;
            length = 0;
            return had;
        }

        private void append(int turn) {
            if (length < turns.length) {
                turns[length] = turn;
                length++;
            }
        }

        private void dropLast() {
            if (length > 0) {
                length--;
            }
        }

        private boolean endsUndoing(int turn) {
            return length > 0 && turns[length - 1] == undoing(turn);
        }

        private boolean takesTight(int turn) {
            return length < turns.length || endsUndoing(turn);
        }

        private void appendTight(int turn) {
            if (endsUndoing(turn)) {
                dropLast();
            } else {
                append(turn);
            }
        }

        private void appendAllTight(Row other) {
            for (int k = 0; k < other.length; k++) {
                appendTight(other.at(k));
            }
        }

        /** Takes back what appendAllTight of the same row did. */
        private void appendAllUndoing(Row other) {
            for (int k = other.length - 1; k >= 0; k--) {
                appendTight(undoing(other.at(k)));
            }
        }

        private void become(Row other) {
            length = 0;
            for (int k = 0; k < other.length; k++) {
                append(other.at(k));
            }
        }

        private void becomeTight(Row whole) {
            length = 0;
            appendAllTight(whole);
        }

        private void becomeJoined(Row front, Row behind) {
            becomeTight(front);
            appendAllTight(behind);
        }

        private boolean isTight() {
            for (int k = 1; k < length; k++) {
                if (at(k) == undoing(at(k - 1))) {
                    return false;
                }
            }
            return true;
        }

        private int commonStart(Row other) {
            int shorter = Math.min(length, other.length);
            for (int k = 0; k < shorter; k++) {
                if (at(k) != other.at(k)) {
                    return k;
                }
            }
            return shorter;
        }

        private boolean isLike(Row other) {
            return length == other.length && commonStart(other) == length;
        }

        /** Below 0: this comes first; by length, then by turns. */
        private int compareWith(Row other) {
            if (length != other.length) {
                return Integer.compare(length, other.length);
            }
            int same = commonStart(other);
            return Integer.compare(at(same), other.at(same));
        }

        /** In how many places two rows of a like length differ. */
        private int differences(Row other) {
            int places = 0;
            for (int k = 0; k < length; k++) {
                if (at(k) != other.at(k)) {
                    places++;
                }
            }
            return places;
        }

        private int shortestRepeated() {
            for (int size = 1; size < length; size++) {
                if (length % size == 0 && repeats(size)) {
                    return size;
                }
            }
            return length;
        }

        private boolean repeats(int size) {
            for (int k = size; k < length; k++) {
                if (at(k) != at(k - size)) {
                    return false;
                }
            }
            return true;
        }

        /** How many turns go from each end as the ends are bent together. */
        private int lostByBending() {
            int lost = 0;
            for (int k = 0; 2 * k + 1 < length; k++) {
                if (at(k) != undoing(at(length - 1 - k))) {
                    break;
                }
                lost++;
            }
            return lost;
        }

        private boolean isRingOf(Row other) {
            int lost = lostByBending();
            int otherLost = other.lostByBending();
            int size = length - 2 * lost;
            if (size != other.length - 2 * otherLost) {
                return false;
            }
            for (int begin = 0; begin < size; begin++) {
                if (isRingBegunAt(begin, other, lost, otherLost, size)) {
                    return true;
                }
            }
            return size == 0;
        }

        private boolean isRingBegunAt(int begin, Row other, int lost, int otherLost, int size) {
            for (int k = 0; k < size; k++) {
                int round = begin + k < size ? begin + k : begin + k - size;
                if (at(lost + round) != other.at(otherLost + k)) {
                    return false;
                }
            }
            return true;
        }
    }

    /** What can be undone and kept: the names and the contract. */
    private static final class Camp {
        private final Row[] names = new Row[MOST_HERDERS];
        private final Row contract = new Row(MOST_TURNS);
        private int herders = 0;

        private Camp() {
            for (int h = 0; h < MOST_HERDERS; h++) {
                names[h] = new Row(MOST_TURNS);
            }
        }

        private boolean has(int h) {
            return isWithin(h, 0, herders - 1);
        }

        /** Asked only for a herder that there is. */
        private Row nameOf(int h) {
            return names[h];
        }

        private void empty() {
            herders = 0;
            contract.empty();
        }

        private void addHerder() {
            if (herders < MOST_HERDERS) {
                names[herders].empty();
                herders++;
            }
        }

        private void tieLastHerder(int turn) {
            if (herders > 0) {
                names[herders - 1].appendTight(turn);
            }
        }

        private void become(Camp other) {
            herders = other.herders;
            for (int h = 0; h < herders; h++) {
                names[h].become(other.names[h]);
            }
            contract.become(other.contract);
        }

        private int turns() {
            int sum = 0;
            for (int h = 0; h < herders; h++) {
                sum += names[h].length;
            }
            return sum;
        }

        private int named() {
            int bits = 0;
            for (int h = 0; h < herders; h++) {
                if (names[h].length > 0) {
                    bits |= 1 << h;
                }
            }
            return bits;
        }

        private int calledLike(int h) {
            int bits = 0;
            for (int other = 0; other < herders; other++) {
                if (names[other].isLike(names[h])) {
                    bits |= 1 << other;
                }
            }
            return bits;
        }

        private int unlikeNames() {
            int unlike = 0;
            for (int h = 0; h < herders; h++) {
                int lower = (1 << h) - 1;
                if ((calledLike(h) & lower) == 0) {
                    unlike++;
                }
            }
            return unlike;
        }
    }

    /** The text that tells a camp. */
    private static final class Text {
        private static final int NO_FAULT = -1;
        private static final String TURN_LETTERS = "udlrio";

        private final char[] letters = new char[MOST_LETTERS];
        private int length = 0;

        private boolean append(int letter) {
            if (length >= MOST_LETTERS) {
                return false;
            }
            letters[length] = (char) letter;
            length++;
            return true;
        }

        private void empty() {
            length = 0;
        }

        private static boolean isTurnLetter(char letter) {
            return TURN_LETTERS.indexOf(letter) >= 0;
        }

        /** The place of the first letter that can't stand where it stands. */
        private int fault() {
            int items = 0;
            int turns = 0;
            boolean open = false;
            for (int place = 0; place < length; place++) {
                char letter = letters[place];
                if (letter == ' ') {
                    continue;
                }
                if (open && letter == ';') {
                    open = false;
                } else if (open && isTurnLetter(letter) && turns < MOST_TOLD_TURNS) {
                    turns++;
                } else if (!open && letter == 'h' && items < MOST_HERDERS) {
                    open = true;
                    items++;
                    turns = 0;
                } else {
                    return place;
                }
            }
            return open ? length : NO_FAULT;
        }

        /** Makes a camp as told, by a text without a fault. */
        private void tell(Camp camp) {
            camp.empty();
            for (int place = 0; place < length; place++) {
                char letter = letters[place];
                if (letter == 'h') {
                    camp.addHerder();
                } else if (isTurnLetter(letter)) {
                    camp.tieLastHerder(TURN_LETTERS.indexOf(letter));
                }
            }
        }
    }

    /** The camps before the latest deeds; the oldest makes room for the newest. */
    private static final class Past {
        private final Camp[] camps = new Camp[MOST_UNDONE];
        private int newest = 0;
        private int known = 0;

        private Past() {
            for (int i = 0; i < MOST_UNDONE; i++) {
                camps[i] = new Camp();
            }
        }

        private void remember(Camp camp) {
            newest = newest + 1 < MOST_UNDONE ? newest + 1 : 0;
            camps[newest].become(camp);
            known = Math.min(known + 1, MOST_UNDONE);
        }

        private void takeBack(Camp camp) {
            if (known > 0) {
                camp.become(camps[newest]);
                newest = newest > 0 ? newest - 1 : MOST_UNDONE - 1;
                known--;
            }
        }

        private void forget() {
            known = 0;
        }
    }

    /** The rows of a length that are tight and far enough from every name of that length. */
    private static final class NewNames {
        private final Row first = new Row(MOST_NEW_TURNS);
        private final Row tried = new Row(MOST_NEW_TURNS);
        private int howMany = 0;

        private void find(Camp camp, int n, int d) {
            howMany = 0;
            int rows = (int) power(TURN_KINDS, n);
            for (int number = 0; number < rows; number++) {
                spell(number, n);
                if (tried.isTight() && isFar(camp, d)) {
                    if (howMany == 0) {
                        first.become(tried);
                    }
                    howMany++;
                }
            }
        }

        /** The rows stand in their order if each is read as a number, the first turn highest. */
        private void spell(int number, int n) {
            tried.empty();
            for (int k = n - 1; k >= 0; k--) {
                int place = Math.max(1, (int) power(TURN_KINDS, k));
                tried.append(number / place % TURN_KINDS);
            }
        }

        private boolean isFar(Camp camp, int d) {
            for (int h = 0; h < camp.herders; h++) {
                Row known = camp.nameOf(h);
                if (known.length == tried.length && known.differences(tried) < d) {
                    return false;
                }
            }
            return true;
        }
    }

    /** The rows of herders whose names, one behind the other, are the contract. */
    private static final class Lives {
        private final Row goal = new Row(MOST_TURNS);
        private final Row joined = new Row(MOST_HERDERS * MOST_TURNS);
        private final int[] chosen = new int[MOST_HERDERS];
        private final int[] first = new int[MOST_HERDERS];
        private final int[] rowsOf = new int[MOST_HERDERS];
        private int firstLength = 0;
        private int howMany = 0;

        private void readBack(Camp camp) {
            goal.becomeTight(camp.contract);
            joined.empty();
            howMany = 0;
            firstLength = 0;
            for (int h = 0; h < MOST_HERDERS; h++) {
                rowsOf[h] = 0;
            }
            seek(this, camp, 0, 0);
        }

        private static void seek(Lives lives, Camp camp, int depth, int taken) {
            if (depth >= MOST_HERDERS) {
                return;
            }
            for (int h = 0; h < camp.herders; h++) {
                int bit = 1 << h;
                if ((taken & bit) == 0) {
                    lives.chosen[depth] = h;
                    lives.joined.appendAllTight(camp.nameOf(h));
                    if (lives.joined.isLike(lives.goal)) {
                        lives.note(depth + 1);
                    }
                    seek(lives, camp, depth + 1, taken | bit);
                    lives.joined.appendAllUndoing(camp.nameOf(h));
                }
            }
        }

        /** Rows of one length are found in their order, so only a shorter one is a new first. */
        private void note(int size) {
            boolean isFirst = howMany == 0 || size < firstLength;
            if (isFirst) {
                firstLength = size;
            }
            for (int i = 0; i < size; i++) {
                rowsOf[chosen[i]]++;
                if (isFirst) {
                    first[i] = chosen[i];
                }
            }
            howMany++;
        }

        private int inMost() {
            int most = 0;
            for (int h = 1; h < MOST_HERDERS; h++) {
                if (rowsOf[h] > rowsOf[most]) {
                    most = h;
                }
            }
            return most;
        }
    }
}
