/**
 * A text that grows letter by letter, and the machine with the fewest states that takes just the
 * words in it. What each call answers is told, promise by promise, in the project's document.
 */
public final class GrowingText {
    public static final int BAD = -1, NOT = -2, FULL = -3, NONE = -4, NULL = -11, PLACE = -12, MUCH = -13;

    private static final int MOST_KINDS = 5;
    private static final int FIRST_KINDS = 2;
    private static final int MOST_LETTERS = 60;
    // A letter makes two states at most, and STATE 0 is there ahead of all letters.
    private static final int MOST_STATES = 2 * MOST_LETTERS + 1;
    private static final int SHEETS = 4;
    private static final int MOST_SIGNS = 64;
    private static final int LETTER_SIGN = 97;
    private static final int GREATEST_SIGN = 65535;
    private static final int IMAGES = 2;
    private static final int GREATEST_SEED = 999999;
    private static final int GREATEST_BASE = 9;
    private static final long DRIFT_FACTOR = 16807L;
    private static final long DRIFT_DIVISOR = 2147483647L;
    private static final long GREATEST = 2147483647L;

    private final Machine machine;
    private final Words words;
    private final Sheet[] sheets;
    private final Image[] images;

    public GrowingText() {
        machine = new Machine();
        words = new Words(machine);
        sheets = new Sheet[SHEETS];
        for (int s = 0; s < SHEETS; s++) {
            sheets[s] = new Sheet();
        }
        images = new Image[IMAGES];
        for (int i = 0; i < IMAGES; i++) {
            images[i] = new Image();
        }
    }

    // ---- the text

    public int begin(int k) {
        if (k < 1 || k > MOST_KINDS) {
            return BAD;
        }
        int had = machine.length;
        machine.startOver(k);
        return had;
    }

    public int grow(int letter) {
        if (!machine.isLetter(letter)) {
            return BAD;
        }
        if (!machine.hasRoomFor(1)) {
            return FULL;
        }
        machine.append(letter);
        return machine.states;
    }

    public int growBy(int sheet) {
        Sheet page = pageAt(sheet);
        if (page == null) {
            return BAD;
        }
        if (!page.there) {
            return NULL;
        }
        if (!machine.takesAllOf(page)) {
            return NOT;
        }
        if (!machine.hasRoomFor(page.length)) {
            return FULL;
        }
        for (int i = 0; i < page.length; i++) {
            machine.append(page.letterAt(i));
        }
        return machine.length;
    }

    public int cut(int n) {
        if (n < 0 || n > machine.length) {
            return BAD;
        }
        machine.shortenTo(machine.length - n);
        return machine.length;
    }

    public int drift(int n, int seed) {
        if (n < 1 || n > MOST_LETTERS || seed < 1 || seed > GREATEST_SEED) {
            return BAD;
        }
        if (!machine.hasRoomFor(n)) {
            return FULL;
        }
        long x = seed;
        for (int i = 0; i < n; i++) {
            x = x * DRIFT_FACTOR % DRIFT_DIVISOR;
            machine.append(machine.letterLeftOver(x));
        }
        return machine.length;
    }

    public int letter(int i) {
        return i >= 0 && i < machine.length ? machine.letterAt(i) : PLACE;
    }

    public int count(int what) {
        switch (what) {
            case 0:
                return machine.alphabet;
            case 1:
                return machine.length;
            case 2:
                return machine.states;
            case 3:
                return machine.clones();
            case 4:
                return machine.movesInAll();
            case 5:
                return words.unlikeUpTo(machine.length);
            case 6:
                return machine.length > 0 ? machine.againAt(machine.length) : NONE;
            case 7:
                return words.period();
            case 8:
                return words.lengthsTogether();
            case 9:
                return sheetsThere();
            case 10:
                return words.parts();
            default:
                return BAD;
        }
    }

    // ---- states

    public int state(int s, int what) {
        if (!machine.isState(s)) {
            return BAD;
        }
        switch (what) {
            case 0:
                return machine.longestOf(s);
            case 1:
                return machine.shortestOf(s);
            case 2:
                return machine.linkOf(s);
            case 3:
                return Long.bitCount(machine.endsOf(s));
            case 4:
                return machine.firstEndOf(s);
            case 5:
                return machine.madeBehind(s);
            case 6:
                return machine.originalOf(s);
            default:
                return BAD;
        }
    }

    public int move(int s, int letter) {
        if (!machine.isState(s) || !machine.isLetter(letter)) {
            return BAD;
        }
        return machine.moveOf(s, letter);
    }

    public int end(int s, int k) {
        if (!machine.isState(s) || k < 0) {
            return BAD;
        }
        return Ends.kthOf(machine.endsOf(s), k);
    }

    // ---- sheets

    public int sheet(int s, int n) {
        Sheet page = pageAt(s);
        if (page == null || n < 0 || n > MOST_SIGNS) {
            return BAD;
        }
        page.layOut(n);
        return n;
    }

    public int set(int s, int i, int v) {
        Sheet page = pageAt(s);
        if (page == null || v < 0 || v > GREATEST_SIGN) {
            return BAD;
        }
        if (!page.there) {
            return NULL;
        }
        if (!page.hasPlace(i)) {
            return PLACE;
        }
        int was = page.signAt(i);
        page.write(i, v);
        return was;
    }

    public int get(int s, int i) {
        Sheet page = pageAt(s);
        if (page == null) {
            return BAD;
        }
        if (!page.there) {
            return NULL;
        }
        return page.hasPlace(i) ? page.signAt(i) : PLACE;
    }

    public int size(int s) {
        Sheet page = pageAt(s);
        if (page == null) {
            return BAD;
        }
        return page.there ? page.length : NULL;
    }

    public int drop(int s) {
        Sheet page = pageAt(s);
        if (page == null) {
            return BAD;
        }
        if (!page.there) {
            return NULL;
        }
        int had = page.length;
        page.takeAway();
        return had;
    }

    // ---- of words

    public int walk(int s) {
        Sheet page = pageAt(s);
        if (page == null) {
            return BAD;
        }
        return page.there ? words.stateOf(page) : NULL;
    }

    public int times(int s, int what) {
        Sheet page = pageAt(s);
        if (page == null || what < 0 || what > 2) {
            return BAD;
        }
        if (!page.there) {
            return NULL;
        }
        long ends = machine.endsOf(words.stateOf(page));
        int many = Long.bitCount(ends);
        if (what == 0) {
            return many;
        }
        return Ends.kthOf(ends, what == 1 ? 0 : many - 1);
    }

    public int kth(int k, int s) {
        Sheet page = pageAt(s);
        if (k < 0 || page == null) {
            return BAD;
        }
        if (k >= words.unlikeUpTo(machine.length)) {
            return NONE;
        }
        words.writeKth(k, page);
        return page.length;
    }

    public int rank(int s) {
        Sheet page = pageAt(s);
        if (page == null) {
            return BAD;
        }
        if (!page.there) {
            return NULL;
        }
        if (page.length == 0 || words.stateOf(page) == NONE) {
            return NONE;
        }
        return words.wordsAheadOf(page);
    }

    public int absent(int s) {
        Sheet page = pageAt(s);
        if (page == null) {
            return BAD;
        }
        words.writeAbsent(page);
        return page.length;
    }

    public int missing(int n) {
        if (n < 0 || n > MOST_LETTERS) {
            return BAD;
        }
        long rows = 1;
        for (int i = 0; i < n; i++) {
            rows = rows * machine.alphabet;
            if (rows > GREATEST) {
                return MUCH;
            }
        }
        return (int) (rows - words.wordsOfLength(n));
    }

    public int often(int n, int s) {
        Sheet page = pageAt(s);
        if (n < 1 || page == null) {
            return BAD;
        }
        if (n > Long.bitCount(machine.endsOf(0))) {
            return NONE;
        }
        int found = words.longestStateWith(n);
        page.copyWord(machine, machine.firstEndOf(found), machine.longestOf(found));
        return page.length;
    }

    public int twice(int n) {
        if (n < 1 || n > MOST_LETTERS) {
            return BAD;
        }
        return words.firstTwice(n);
    }

    public int unlike(int n) {
        if (n < 0 || n > machine.length) {
            return BAD;
        }
        return words.unlikeUpTo(n);
    }

    public int single(int s) {
        Sheet page = pageAt(s);
        if (page == null) {
            return BAD;
        }
        int found = words.shortestStateAlone();
        page.copyWord(machine, machine.firstEndOf(found), machine.shortestOf(found));
        return page.length;
    }

    public int gap(int s) {
        Sheet page = pageAt(s);
        if (page == null) {
            return BAD;
        }
        if (!page.there) {
            return NULL;
        }
        int widest = Ends.widestGap(machine.endsOf(words.stateOf(page)));
        return widest > 0 ? widest : NONE;
    }

    public int cover() {
        return words.leastCover();
    }

    public int part(int k) {
        return k < 0 ? BAD : words.beginOfPart(k);
    }

    public int common(int s, int what) {
        Sheet page = pageAt(s);
        if (page == null || what < 0 || what > 1) {
            return BAD;
        }
        if (!page.there) {
            return NULL;
        }
        return words.longestCommon(page, what == 1);
    }

    public int border(int k) {
        return k < 0 ? BAD : words.kthBorder(k);
    }

    public int next(int n) {
        if (n < 0 || n > machine.length) {
            return BAD;
        }
        return words.likeliestBehind(words.stateOfLast(n));
    }

    public int worth(int v) {
        if (v < 1 || v > GREATEST_BASE) {
            return BAD;
        }
        return words.worthTogether(v);
    }

    // ---- images

    public int keep(int i) {
        Image image = imageAt(i);
        if (image == null) {
            return BAD;
        }
        image.take(machine);
        return machine.length;
    }

    public int goBack(int i) {
        Image image = imageAt(i);
        if (image == null) {
            return BAD;
        }
        if (!image.kept) {
            return NOT;
        }
        image.giveBack(machine);
        return machine.length;
    }

    private Sheet pageAt(int s) {
        return s >= 0 && s < sheets.length ? sheets[s] : null;
    }

    private Image imageAt(int i) {
        return i >= 0 && i < images.length ? images[i] : null;
    }

    private int sheetsThere() {
        int there = 0;
        for (int s = 0; s < sheets.length; s++) {
            if (sheets[s] != null && sheets[s].there) {
                there++;
            }
        }
        return there;
    }

    /** The one way into rows of numbers, so that no place beside a row is ever touched. */
    private static final class Rows {
        static int at(int[] row, int i) {
            return row != null && i >= 0 && i < row.length ? row[i] : 0;
        }

        static long at(long[] row, int i) {
            return row != null && i >= 0 && i < row.length ? row[i] : 0L;
        }

        static void put(int[] row, int i, int v) {
            if (row != null && i >= 0 && i < row.length) {
                row[i] = v;
            }
        }

        static void put(long[] row, int i, long v) {
            if (row != null && i >= 0 && i < row.length) {
                row[i] = v;
            }
        }
    }

    /** ENDS are bits of one long: END e, 0 to 60, is bit e. */
    private static final class Ends {
        static int firstOf(long ends) {
            long lowest = ends & -ends;
            return Long.bitCount(lowest - 1);
        }

        static int kthOf(long ends, int k) {
            if (k < 0 || k >= Long.bitCount(ends)) {
                return NONE;
            }
            long left = ends;
            for (int i = 0; i < k; i++) {
                left = withoutFirst(left);
            }
            return firstOf(left);
        }

        /** The greatest step from one END to the one behind it; 0 if there are no two. */
        static int widestGap(long ends) {
            int many = Long.bitCount(ends);
            long left = ends;
            int widest = 0;
            for (int i = 1; i < many; i++) {
                int from = firstOf(left);
                left = withoutFirst(left);
                widest = Math.max(widest, firstOf(left) - from);
            }
            return widest;
        }

        private static long withoutFirst(long ends) {
            return ends & (ends - 1);
        }
    }

    /** A row of characters that may be missing; its row is made once and used again. */
    private static final class Sheet {
        private final int[] signs;
        boolean there;
        int length;

        Sheet() {
            signs = new int[MOST_SIGNS];
            there = false;
            length = 0;
        }

        void layOut(int n) {
            there = true;
            length = n;
            for (int i = 0; i < n; i++) {
                write(i, LETTER_SIGN);
            }
        }

        void takeAway() {
            there = false;
            length = 0;
        }

        boolean hasPlace(int i) {
            return i >= 0 && i < length;
        }

        int signAt(int i) {
            return Rows.at(signs, i);
        }

        void write(int i, int v) {
            Rows.put(signs, i, v);
        }

        /** Below 0, or not below K, where the character is no LETTER. */
        int letterAt(int i) {
            return signAt(i) - LETTER_SIGN;
        }

        void addLetter(int letter) {
            if (length < MOST_SIGNS) {
                write(length, LETTER_SIGN + letter);
                length++;
            }
        }

        void copyWord(Machine from, int end, int many) {
            layOut(0);
            for (int i = end - many; i < end; i++) {
                addLetter(from.letterAt(i));
            }
        }
    }

    /** The text alone is kept: what it was grown from tells all its states again. */
    private static final class Image {
        private final int[] letters;
        private int alphabet;
        private int length;
        boolean kept;

        Image() {
            letters = new int[MOST_LETTERS];
            alphabet = FIRST_KINDS;
            length = 0;
            kept = false;
        }

        void take(Machine from) {
            kept = true;
            alphabet = from.alphabet;
            length = from.length;
            for (int i = 0; i < length; i++) {
                Rows.put(letters, i, from.letterAt(i));
            }
        }

        void giveBack(Machine to) {
            to.startOver(alphabet);
            for (int i = 0; i < length; i++) {
                to.append(Rows.at(letters, i));
            }
        }
    }

    /** The text and its states. */
    private static final class Machine {
        int alphabet;
        int length;
        int states;
        private int last;
        private final int[] letters;
        // Behind each number of letters: how many the longest word has that ends there and ended ahead of there too.
        private final int[] again;
        private final int[] moves;
        private final int[] longest;
        private final int[] link;
        private final int[] made;
        private final int[] original;
        private final long[] ends;

        Machine() {
            letters = new int[MOST_LETTERS];
            again = new int[MOST_LETTERS + 1];
            moves = new int[MOST_STATES * MOST_KINDS];
            longest = new int[MOST_STATES];
            link = new int[MOST_STATES];
            made = new int[MOST_STATES];
            original = new int[MOST_STATES];
            ends = new long[MOST_STATES];
            startOver(FIRST_KINDS);
        }

        void startOver(int k) {
            alphabet = k;
            length = 0;
            states = 0;
            last = addState(0);
            Rows.put(ends, last, 1L);
            // Ahead of all letters even the empty word is new, so that it is counted as a word of 0 letters.
            Rows.put(again, 0, -1);
        }

        void shortenTo(int left) {
            startOver(alphabet);
            // Starting over leaves the letters row as it was, and each letter is put back where it stood.
            for (int i = 0; i < left; i++) {
                append(letterAt(i));
            }
        }

        void append(int letter) {
            if (!isLetter(letter) || !hasRoomFor(1)) {
                return;
            }
            Rows.put(letters, length, letter);
            length++;
            int whole = addState(length);
            int holder = redirect(last, letter, NONE, whole);
            Rows.put(link, whole, holder == NONE ? 0 : stateJustBehind(holder, letter));
            last = whole;
            markEnd();
            Rows.put(again, length, longestOf(linkOf(whole)));
        }

        /** The state whose longest word is that of holder with the letter behind; split off where it has none yet. */
        private int stateJustBehind(int holder, int letter) {
            int target = moveOf(holder, letter);
            int wanted = longestOf(holder) + 1;
            if (longestOf(target) == wanted) {
                return target;
            }
            int clone = addState(wanted);
            Rows.put(original, clone, target);
            Rows.put(link, clone, linkOf(target));
            Rows.put(ends, clone, endsOf(target));
            for (int c = 0; c < alphabet; c++) {
                setMove(clone, c, moveOf(target, c));
            }
            Rows.put(link, target, clone);
            redirect(holder, letter, target, clone);
            return clone;
        }

        /** Along the links from s, moves to one state go to another; the first state with a move elsewhere, or NONE. */
        private int redirect(int s, int letter, int from, int to) {
            int at = s;
            for (int step = 0; step < MOST_STATES && at >= 0 && moveOf(at, letter) == from; step++) {
                setMove(at, letter, to);
                at = linkOf(at);
            }
            return at;
        }

        /** All words that end the text have the new END, and those are the states along the links. */
        private void markEnd() {
            long bit = 1L << length;
            int at = last;
            for (int step = 0; step < MOST_STATES && at >= 0; step++) {
                Rows.put(ends, at, endsOf(at) | bit);
                at = linkOf(at);
            }
        }

        private int addState(int letterCount) {
            int s = states;
            states++;
            Rows.put(longest, s, letterCount);
            Rows.put(link, s, NONE);
            Rows.put(made, s, length);
            Rows.put(original, s, NONE);
            Rows.put(ends, s, 0L);
            for (int c = 0; c < MOST_KINDS; c++) {
                setMove(s, c, NONE);
            }
            return s;
        }

        private void setMove(int s, int letter, int to) {
            Rows.put(moves, s * MOST_KINDS + letter, to);
        }

        boolean isLetter(int letter) {
            return letter >= 0 && letter < alphabet;
        }

        boolean isState(int s) {
            return s >= 0 && s < states;
        }

        boolean hasRoomFor(int many) {
            return length + many <= MOST_LETTERS;
        }

        boolean takesAllOf(Sheet page) {
            for (int i = 0; i < page.length; i++) {
                if (!isLetter(page.letterAt(i))) {
                    return false;
                }
            }
            return true;
        }

        int letterLeftOver(long x) {
            return alphabet > 0 ? (int) (x % alphabet) : 0;
        }

        int letterAt(int i) {
            return Rows.at(letters, i);
        }

        int againAt(int n) {
            return Rows.at(again, n);
        }

        int lastState() {
            return last;
        }

        int moveOf(int s, int letter) {
            return isState(s) && isLetter(letter) ? Rows.at(moves, s * MOST_KINDS + letter) : NONE;
        }

        int longestOf(int s) {
            return Rows.at(longest, s);
        }

        int shortestOf(int s) {
            return s > 0 ? longestOf(linkOf(s)) + 1 : 0;
        }

        int linkOf(int s) {
            return isState(s) ? Rows.at(link, s) : NONE;
        }

        int madeBehind(int s) {
            return Rows.at(made, s);
        }

        int originalOf(int s) {
            return isState(s) ? Rows.at(original, s) : NONE;
        }

        long endsOf(int s) {
            return isState(s) ? Rows.at(ends, s) : 0L;
        }

        int firstEndOf(int s) {
            return Ends.firstOf(endsOf(s));
        }

        int clones() {
            int many = 0;
            for (int s = 0; s < states; s++) {
                if (originalOf(s) != NONE) {
                    many++;
                }
            }
            return many;
        }

        int movesInAll() {
            int many = 0;
            for (int s = 0; s < states; s++) {
                for (int c = 0; c < alphabet; c++) {
                    if (moveOf(s, c) != NONE) {
                        many++;
                    }
                }
            }
            return many;
        }
    }

    /** What is asked of the words of a machine; nothing of the machine is changed here. */
    private static final class Words {
        private final Machine machine;
        private final int[] heads;
        private final int[] order;
        // Of each state: how many words go on from it (itself too), or how many letters lead out of the words.
        private final int[] onward;
        private final long[] sums;

        Words(Machine asked) {
            machine = asked;
            heads = new int[MOST_LETTERS + 2];
            order = new int[MOST_STATES];
            onward = new int[MOST_STATES];
            sums = new long[MOST_LETTERS + 1];
        }

        int stateOf(Sheet page) {
            int s = 0;
            for (int i = 0; i < page.length && s != NONE; i++) {
                s = machine.moveOf(s, page.letterAt(i));
            }
            return s;
        }

        // ---- how many, of how many letters: letter i brings one new word of each length from again + 1 to i

        int unlikeUpTo(int n) {
            int many = 0;
            for (int i = 1; i <= n; i++) {
                many += i - machine.againAt(i);
            }
            return many;
        }

        int lengthsTogether() {
            int together = 0;
            for (int i = 1; i <= machine.length; i++) {
                together += sumUpTo(i) - sumUpTo(machine.againAt(i));
            }
            return together;
        }

        private static int sumUpTo(int n) {
            return n * (n + 1) / 2;
        }

        int wordsOfLength(int n) {
            int many = 0;
            for (int i = n; i <= machine.length; i++) {
                if (machine.againAt(i) < n) {
                    many++;
                }
            }
            return many;
        }

        int firstTwice(int n) {
            for (int i = 1; i <= machine.length; i++) {
                if (machine.againAt(i) >= n) {
                    return i;
                }
            }
            return NONE;
        }

        int worthTogether(int v) {
            long power = 1;
            long sum = 0;
            Rows.put(sums, 0, 0L);
            for (int n = 1; n <= machine.length; n++) {
                power = power * v;
                sum = sum + power;
                // The beginnings of the text are words: they alone are too much by now.
                if (sum > GREATEST) {
                    return MUCH;
                }
                Rows.put(sums, n, sum);
            }
            long together = 0;
            for (int i = 1; i <= machine.length; i++) {
                together += Rows.at(sums, i) - Rows.at(sums, machine.againAt(i));
            }
            return together > GREATEST ? MUCH : (int) together;
        }

        // ---- words in order

        /** A move always leads to a state with a longer LONGEST, so this order has each state ahead of its moves. */
        private void orderByLongest() {
            for (int n = 0; n <= MOST_LETTERS + 1; n++) {
                Rows.put(heads, n, 0);
            }
            for (int s = 0; s < machine.states; s++) {
                int n = machine.longestOf(s) + 1;
                Rows.put(heads, n, Rows.at(heads, n) + 1);
            }
            for (int n = 1; n <= MOST_LETTERS + 1; n++) {
                Rows.put(heads, n, Rows.at(heads, n) + Rows.at(heads, n - 1));
            }
            for (int s = 0; s < machine.states; s++) {
                int n = machine.longestOf(s);
                int place = Rows.at(heads, n);
                Rows.put(order, place, s);
                Rows.put(heads, n, place + 1);
            }
        }

        private void countOnward() {
            orderByLongest();
            for (int i = machine.states - 1; i >= 0; i--) {
                int s = Rows.at(order, i);
                int many = 1;
                for (int c = 0; c < machine.alphabet; c++) {
                    many += onwardBy(s, c);
                }
                Rows.put(onward, s, many);
            }
        }

        private int onwardBy(int s, int letter) {
            int to = machine.moveOf(s, letter);
            return to == NONE ? 0 : Rows.at(onward, to);
        }

        void writeKth(int k, Sheet page) {
            countOnward();
            page.layOut(0);
            int s = 0;
            int rest = k;
            for (int n = 0; n < MOST_LETTERS && rest >= 0; n++) {
                int c = 0;
                while (c < machine.alphabet - 1 && rest >= onwardBy(s, c)) {
                    rest -= onwardBy(s, c);
                    c++;
                }
                page.addLetter(c);
                s = machine.moveOf(s, c);
                rest--;
            }
        }

        /** Asked of words that are not empty alone. */
        int wordsAheadOf(Sheet page) {
            countOnward();
            int s = 0;
            int ahead = -1;
            for (int i = 0; i < page.length; i++) {
                int letter = page.letterAt(i);
                for (int c = 0; c < letter && c < machine.alphabet; c++) {
                    ahead += onwardBy(s, c);
                }
                s = machine.moveOf(s, letter);
                ahead++;
            }
            return ahead;
        }

        void writeAbsent(Sheet page) {
            countWayOut();
            page.layOut(0);
            int s = 0;
            for (int n = 0; n <= MOST_LETTERS && s != NONE; n++) {
                int c = 0;
                while (c < machine.alphabet - 1 && wayOutBy(s, c) > Rows.at(onward, s)) {
                    c++;
                }
                page.addLetter(c);
                s = machine.moveOf(s, c);
            }
        }

        private void countWayOut() {
            orderByLongest();
            for (int i = machine.states - 1; i >= 0; i--) {
                int s = Rows.at(order, i);
                int least = wayOutBy(s, 0);
                for (int c = 1; c < machine.alphabet; c++) {
                    least = Math.min(least, wayOutBy(s, c));
                }
                Rows.put(onward, s, least);
            }
        }

        private int wayOutBy(int s, int letter) {
            int to = machine.moveOf(s, letter);
            return to == NONE ? 1 : 1 + Rows.at(onward, to);
        }

        // ---- the longest that comes so often, the shortest that comes once

        int longestStateWith(int n) {
            int found = 0;
            for (int s = 1; s < machine.states; s++) {
                int letterCount = machine.longestOf(s);
                int more = letterCount - machine.longestOf(found);
                boolean comesSoOften = Long.bitCount(machine.endsOf(s)) >= n;
                if (comesSoOften && (more > 0 || more == 0 && isAhead(s, found, letterCount))) {
                    found = s;
                }
            }
            return found;
        }

        int shortestStateAlone() {
            int found = machine.lastState();
            for (int s = 0; s < machine.states; s++) {
                int letterCount = machine.shortestOf(s);
                int more = letterCount - machine.shortestOf(found);
                boolean comesOnce = Long.bitCount(machine.endsOf(s)) == 1;
                if (comesOnce && (more < 0 || more == 0 && isAhead(s, found, letterCount))) {
                    found = s;
                }
            }
            return found;
        }

        /** Of two words with so many letters, one of each state. */
        private boolean isAhead(int s, int than, int letterCount) {
            int end = machine.firstEndOf(s);
            int endThan = machine.firstEndOf(than);
            for (int back = letterCount; back > 0; back--) {
                int letter = machine.letterAt(end - back);
                int letterThan = machine.letterAt(endThan - back);
                if (letter != letterThan) {
                    return letter < letterThan;
                }
            }
            return false;
        }

        // ---- beats, ends that are beginnings: the states along the links from that of the whole text

        /** A word that begins the text has its first END behind its own letters, and is then LONGEST. */
        private boolean beginsText(int s) {
            return machine.firstEndOf(s) == machine.longestOf(s);
        }

        int kthBorder(int k) {
            int at = machine.linkOf(machine.lastState());
            int passed = 0;
            for (int step = 0; step < MOST_STATES && at > 0; step++) {
                if (beginsText(at)) {
                    if (passed == k) {
                        return machine.longestOf(at);
                    }
                    passed++;
                }
                at = machine.linkOf(at);
            }
            return NONE;
        }

        int period() {
            if (machine.length == 0) {
                return NONE;
            }
            return machine.length - Math.max(0, kthBorder(0));
        }

        int leastCover() {
            int least = NONE;
            int at = machine.lastState();
            for (int step = 0; step < MOST_STATES && at > 0; step++) {
                int n = machine.longestOf(at);
                if (beginsText(at) && Ends.widestGap(machine.endsOf(at)) <= n) {
                    least = n;
                }
                at = machine.linkOf(at);
            }
            return least;
        }

        // ---- parts

        int parts() {
            int begin = 0;
            int many = 0;
            for (int i = 0; i < MOST_LETTERS && begin < machine.length; i++) {
                begin += lettersOfPart(begin);
                many++;
            }
            return many;
        }

        int beginOfPart(int k) {
            int begin = 0;
            for (int i = 0; i < MOST_LETTERS && begin < machine.length; i++) {
                if (i == k) {
                    return begin;
                }
                begin += lettersOfPart(begin);
            }
            return NONE;
        }

        private int lettersOfPart(int begin) {
            int s = 0;
            int many = 0;
            for (int i = begin; i < machine.length; i++) {
                s = machine.moveOf(s, machine.letterAt(i));
                if (machine.firstEndOf(s) > i) {
                    break;
                }
                many++;
            }
            return Math.max(1, many);
        }

        // ---- another text, what comes next

        int longestCommon(Sheet page, boolean askedWhere) {
            int s = 0;
            int many = 0;
            int most = 0;
            int where = 0;
            for (int i = 0; i < page.length; i++) {
                int letter = page.letterAt(i);
                for (int step = 0; step < MOST_STATES && s > 0 && machine.moveOf(s, letter) == NONE; step++) {
                    s = machine.linkOf(s);
                    many = machine.longestOf(s);
                }
                int to = machine.moveOf(s, letter);
                if (to != NONE) {
                    s = to;
                    many++;
                }
                if (many > most) {
                    most = many;
                    where = i + 1 - many;
                }
            }
            return askedWhere ? where : most;
        }

        int stateOfLast(int n) {
            int at = machine.lastState();
            for (int step = 0; step < MOST_STATES && at > 0 && machine.shortestOf(at) > n; step++) {
                at = machine.linkOf(at);
            }
            return at;
        }

        /** All words of a state with a letter behind have as many ENDS as the state to which that letter moves. */
        int likeliestBehind(int s) {
            int best = NONE;
            int most = 0;
            for (int c = 0; c < machine.alphabet; c++) {
                int many = Long.bitCount(machine.endsOf(machine.moveOf(s, c)));
                if (many > most) {
                    most = many;
                    best = c;
                }
            }
            return best;
        }
    }
}
