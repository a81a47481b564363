/**
 * A reader of phrases whose members may come in any order.
 *
 * A list of occurrences is followed by its tally alone, which tells with two bits a member how
 * often each stands in it. That is enough, since all lists with one tally that fit a text end at
 * the same place: they have the same numbers of letters and separators, and each number takes as
 * many digits as it can.
 */
public final class PhraseReader {
    public static final int BAD = -1, STATE = -2, FULL = -3, NONE = -9;

    private static final int MOST_MEMBERS = 6;
    private static final int MOST_TIMES = 3;
    private static final int MOST_OCCURRENCES = 18;
    private static final int MOST_BYTES = 60;
    private static final int MOST_LETTERS = 3;
    private static final int MOST_DIGITS = 3;
    private static final int MOST_STATES = 8;
    private static final int MOST_READINGS = 1000000;
    private static final int GREATEST_DEFAULT = 999;
    private static final int IMAGES = 2;
    private static final int TALLIES = 4096;
    private static final int NO_VALUE = 0, NUMBER = 1, CAPITAL = 2;
    private static final int ANY_LENGTH = -1;
    private static final int NO_WORD = 0;

    private final Bytes text = new Bytes();
    private final Bytes normalForm = new Bytes();
    private final Declarations now = new Declarations();
    private final History history = new History();
    private final Declarations[] images = new Declarations[IMAGES];
    private final boolean[] kept = new boolean[IMAGES];
    private final Reading reading = new Reading();
    private final OrderTable orderTable = new OrderTable();

    public PhraseReader() {
        for (int i = 0; i < images.length; i++) {
            images[i] = new Declarations();
        }
    }

    // ---- the text

    public int write(int code) {
        if (code < 32 || code > 126) {
            return BAD;
        }
        if (!text.append(code)) {
            return FULL;
        }
        reading.forget();
        return text.length;
    }

    public int wipe() {
        int length = text.length;
        text.clear();
        reading.forget();
        return length;
    }

    // ---- declarations

    public int declare(int kind, int least, int most) {
        boolean inRange = isKind(kind) && least >= 0 && most >= 1 && most <= MOST_TIMES && least <= most;
        if (!inRange) {
            return BAD;
        }
        int word = text.asWord();
        if (word == NO_WORD || now.hasWord(word)) {
            return STATE;
        }
        if (now.count >= MOST_MEMBERS) {
            return FULL;
        }
        beginChange();
        return now.add(word, kind, least, most);
    }

    public int remove(int m) {
        if (!now.has(m)) {
            return BAD;
        }
        beginChange();
        now.takeOut(m);
        return now.count;
    }

    public int set(int m, int what, int v) {
        if (!now.has(m) || !now.at(m).accepts(what, v)) {
            return BAD;
        }
        beginChange();
        return now.at(m).exchange(what, v);
    }

    public int move(int m, int to) {
        if (!now.has(m) || !now.has(to)) {
            return BAD;
        }
        beginChange();
        now.reseat(m, to);
        return to;
    }

    public int setSeparator(int code) {
        if (code != 0 && (code < 33 || code > 47)) {
            return BAD;
        }
        beginChange();
        int previous = now.separator;
        now.separator = code;
        return previous;
    }

    public int rule(int a, int b, int on) {
        if (!now.has(a) || !now.has(b) || a == b || on < 0 || on > 1) {
            return BAD;
        }
        beginChange();
        Member first = now.at(a);
        int previous = bitOf(first.before, b);
        first.before = withBit(first.before, b, on);
        return previous;
    }

    public int undo() {
        if (history.count == 0) {
            return STATE;
        }
        history.restore(now);
        forgetTables();
        return history.count;
    }

    /** Every change calls this when it can't fail any more, before it alters anything. */
    private void beginChange() {
        history.record(now);
        forgetTables();
    }

    private void forgetTables() {
        reading.forget();
        orderTable.forget();
    }

    // ---- what is told of declarations

    public int told(int what) {
        switch (what) {
            case 0: return now.count;
            case 1: return now.separator;
            case 2: return now.countRules();
            case 3: return now.countClashingPairs();
            case 4: return text.length;
            case 5: return history.count;
            case 6: return now.leastOccurrences();
            case 7: return now.mostOccurrences();
            default: return BAD;
        }
    }

    public int member(int m, int what) {
        if (!now.has(m) || what < 0 || what > 9) {
            return BAD;
        }
        Member asked = now.at(m);
        switch (what) {
            case 4: return asked.wordLength();
            case 5:
            case 6:
            case 7: return asked.letter(what - 5);
            case 8: return asked.before;
            case 9: return now.clashesOf(m);
            default: return asked.property(what);
        }
    }

    // ---- reading

    public int fault() {
        reading.learn(now, text);
        return reading.exists() ? NONE : reading.farthest(now, text);
    }

    public int readings() {
        reading.learn(now, text);
        return (int) Math.min(reading.waysFrom(0), MOST_READINGS);
    }

    public int occurrence(int k, int what) {
        if (k < 0 || what < 0 || what > 2) {
            return BAD;
        }
        reading.learn(now, text);
        if (!reading.exists()) {
            return STATE;
        }
        switch (what) {
            case 0: return reading.memberAt(k);
            case 1: return reading.startAt(k);
            default: return reading.numberAt(k);
        }
    }

    public int value(int m, int k) {
        if (!now.has(m) || k < 0) {
            return BAD;
        }
        reading.learn(now, text);
        if (!reading.exists()) {
            return STATE;
        }
        int found = 0;
        for (int i = 0; i < reading.count; i++) {
            if (reading.memberAt(i) == m) {
                if (found == k) {
                    return reading.numberAt(i);
                }
                found++;
            }
        }
        return found == 0 && k == 0 ? now.at(m).fallback : NONE;
    }

    public int next() {
        reading.learn(now, text);
        return reading.membersGoingOn(now, text);
    }

    public int normal(int i) {
        if (i < 0) {
            return BAD;
        }
        reading.learn(now, text);
        if (!reading.exists()) {
            return STATE;
        }
        formNormal();
        return normalForm.at(i);
    }

    private void formNormal() {
        normalForm.clear();
        for (int m = 0; m < now.count; m++) {
            for (int k = 0; k < reading.count; k++) {
                if (reading.memberAt(k) == m) {
                    if (normalForm.length > 0 && now.separator != 0) {
                        normalForm.append(now.separator);
                    }
                    normalForm.appendOccurrence(now.at(m), reading.numberAt(k));
                }
            }
        }
    }

    // ---- orders

    public long orders(int length) {
        if (length < ANY_LENGTH || length > MOST_OCCURRENCES) {
            return BAD;
        }
        orderTable.learn(now, length);
        return orderTable.countFrom(0);
    }

    public int order(long n, int k) {
        if (n < 0 || k < 0) {
            return BAD;
        }
        orderTable.learn(now, ANY_LENGTH);
        return orderTable.memberOf(now, n, k);
    }

    public long rank() {
        reading.learn(now, text);
        if (!reading.exists()) {
            return STATE;
        }
        orderTable.learn(now, ANY_LENGTH);
        return orderTable.numberOf(now, reading);
    }

    // ---- images

    public int keep(int i) {
        if (!isImage(i)) {
            return BAD;
        }
        images[i].copyFrom(now);
        kept[i] = true;
        return now.count;
    }

    public int back(int i) {
        if (!isImage(i)) {
            return BAD;
        }
        if (!kept[i]) {
            return STATE;
        }
        beginChange();
        now.copyFrom(images[i]);
        return now.count;
    }

    private boolean isImage(int i) {
        return i >= 0 && i < images.length && i < kept.length;
    }

    // ---- kinds, sets of members and tallies

    private static boolean isKind(int kind) {
        return kind == NO_VALUE || kind == NUMBER || kind == CAPITAL;
    }

    private static boolean isDigit(int code) {
        return code >= '0' && code <= '9';
    }

    private static boolean isSmallLetter(int code) {
        return code >= 'a' && code <= 'z';
    }

    private static boolean isCapital(int code) {
        return code >= 'A' && code <= 'Z';
    }

    private static int bitOf(int bits, int i) {
        return bits >> i & 1;
    }

    private static int withBit(int bits, int i, int bit) {
        return bits & ~(1 << i) | bit << i;
    }

    private static int bitsBelow(int bits, int i) {
        return bits & (1 << i) - 1;
    }

    /** The bits when one of them moves from one place to another and those between give way. */
    private static int withBitMoved(int bits, int from, int to) {
        int others = bitsBelow(bits, from) | (bits >> from + 1) << from;
        return bitsBelow(others, to) | bitOf(bits, from) << to | (others >> to) << to + 1;
    }

    private static int timesIn(int tally, int m) {
        return tally >> 2 * m & 3;
    }

    private static int withOneMore(int tally, int m) {
        return tally + (1 << 2 * m);
    }

    /** At most 60 bytes: the text, or its normal form. */
    private static final class Bytes {
        private final int[] codes = new int[MOST_BYTES];
        private int length;

        private void clear() {
            length = 0;
        }

        private boolean append(int code) {
            if (length < 0 || length >= codes.length) {
                return false;
            }
            codes[length] = code;
            length++;
            return true;
        }

        private int at(int i) {
            return i >= 0 && i < length && i < codes.length ? codes[i] : NONE;
        }

        /** The letters as a member bears them, or NO_WORD if the bytes are no word. */
        private int asWord() {
            if (length > MOST_LETTERS) {
                return NO_WORD;
            }
            int word = NO_WORD;
            for (int i = 0; i < length; i++) {
                if (!isSmallLetter(at(i))) {
                    return NO_WORD;
                }
                word |= at(i) << 8 * i;
            }
            return word;
        }

        private int lettersMatched(Member m, int start) {
            int matched = 0;
            while (matched < m.wordLength() && at(start + matched) == m.letter(matched)) {
                matched++;
            }
            return matched;
        }

        private int digitsFrom(int start) {
            int digits = 0;
            while (digits < MOST_DIGITS && isDigit(at(start + digits))) {
                digits++;
            }
            return digits;
        }

        /** Where the occurrence that begins at start ends, or NONE if there is none. */
        private int endOf(Member m, int start) {
            int behindWord = start + m.wordLength();
            if (lettersMatched(m, start) < m.wordLength()) {
                return NONE;
            }
            if (m.kind == NUMBER) {
                int digits = digitsFrom(behindWord);
                return digits > 0 ? behindWord + digits : NONE;
            }
            if (m.kind == CAPITAL) {
                return isCapital(at(behindWord)) ? behindWord + 1 : NONE;
            }
            return behindWord;
        }

        /** The value of the occurrence that stands from start to end. */
        private int numberIn(Member m, int start, int end) {
            int behindWord = start + m.wordLength();
            if (m.kind == NUMBER) {
                int number = 0;
                for (int i = behindWord; i < end && i < length; i++) {
                    number = 10 * number + at(i) - '0';
                }
                return number;
            }
            return m.kind == CAPITAL ? at(behindWord) - 'A' : 1;
        }

        private void appendOccurrence(Member m, int number) {
            for (int i = 0; i < m.wordLength(); i++) {
                append(m.letter(i));
            }
            if (m.kind == NUMBER) {
                appendNumber(number);
            } else if (m.kind == CAPITAL) {
                append('A' + number);
            }
        }

        private void appendNumber(int number) {
            if (number >= 100) {
                append('0' + number / 100);
            }
            if (number >= 10) {
                append('0' + number / 10 % 10);
            }
            append('0' + number % 10);
        }
    }

    /** What is declared about one member; the letters of its word are the bytes of an int. */
    private static final class Member {
        private int word;
        private int kind;
        private int least;
        private int most;
        private int fallback;
        private int before;

        private void copyFrom(Member other) {
            word = other.word;
            kind = other.kind;
            least = other.least;
            most = other.most;
            fallback = other.fallback;
            before = other.before;
        }

        private int wordLength() {
            if (word > 0xffff) {
                return 3;
            }
            return word > 0xff ? 2 : word > 0 ? 1 : 0;
        }

        private int letter(int i) {
            int code = i >= 0 && i < MOST_LETTERS ? word >> 8 * i & 0xff : 0;
            return code == 0 ? NONE : code;
        }

        private boolean clashesWith(Member other) {
            int shared = 8 * Math.min(wordLength(), other.wordLength());
            return bitsBelow(word, shared) == bitsBelow(other.word, shared);
        }

        private boolean accepts(int what, int v) {
            switch (what) {
                case 0: return isKind(v);
                case 1: return v >= 0 && v <= most;
                case 2: return v >= 1 && v <= MOST_TIMES && v >= least;
                case 3: return v >= 0 && v <= GREATEST_DEFAULT;
                default: return false;
            }
        }

        private int property(int what) {
            switch (what) {
                case 0: return kind;
                case 1: return least;
                case 2: return most;
                default: return fallback;
            }
        }

        private int exchange(int what, int v) {
            int previous = property(what);
            switch (what) {
                case 0: kind = v; break;
                case 1: least = v; break;
                case 2: most = v; break;
                default: fallback = v; break;
            }
            return previous;
        }
    }

    /** A state: the members, the separator and the rules. */
    private static final class Declarations {
        private final Member[] members = new Member[MOST_MEMBERS];
        private final Member nobody = new Member();
        private int count;
        private int separator;

        private Declarations() {
            for (int m = 0; m < members.length; m++) {
                members[m] = new Member();
            }
        }

        private void copyFrom(Declarations other) {
            count = other.count;
            separator = other.separator;
            for (int m = 0; m < members.length; m++) {
                members[m].copyFrom(other.at(m));
            }
        }

        private boolean has(int m) {
            return m >= 0 && m < count && m < members.length;
        }

        private Member at(int m) {
            return m >= 0 && m < members.length ? members[m] : nobody;
        }

        private boolean hasWord(int word) {
            for (int m = 0; m < count; m++) {
                if (at(m).word == word) {
                    return true;
                }
            }
            return false;
        }

        private int add(int word, int kind, int least, int most) {
            Member added = at(count);
            added.word = word;
            added.kind = kind;
            added.least = least;
            added.most = most;
            added.fallback = 0;
            added.before = 0;
            count++;
            return count - 1;
        }

        private void reseat(int from, int to) {
            if (!has(from) || !has(to)) {
                return;
            }
            Member moved = members[from];
            for (int i = from; i < to; i++) {
                members[i] = members[i + 1];
            }
            for (int i = from; i > to; i--) {
                members[i] = members[i - 1];
            }
            members[to] = moved;
            for (int m = 0; m < count; m++) {
                at(m).before = withBitMoved(at(m).before, from, to);
            }
        }

        private void takeOut(int m) {
            if (!has(m)) {
                return;
            }
            reseat(m, count - 1);
            count--;
            for (int i = 0; i < count; i++) {
                at(i).before = bitsBelow(at(i).before, count);
            }
        }

        private int countRules() {
            int rules = 0;
            for (int m = 0; m < count; m++) {
                rules += Integer.bitCount(at(m).before);
            }
            return rules;
        }

        private int clashesOf(int m) {
            int clashes = 0;
            for (int other = 0; other < count; other++) {
                if (other != m && at(m).clashesWith(at(other))) {
                    clashes |= 1 << other;
                }
            }
            return clashes;
        }

        private int countClashingPairs() {
            int clashes = 0;
            for (int m = 0; m < count; m++) {
                clashes += Integer.bitCount(clashesOf(m));
            }
            return clashes / 2;
        }

        private int leastOccurrences() {
            int sum = 0;
            for (int m = 0; m < count; m++) {
                sum += at(m).least;
            }
            return sum;
        }

        private int mostOccurrences() {
            int sum = 0;
            for (int m = 0; m < count; m++) {
                sum += at(m).most;
            }
            return sum;
        }

        private int tallies() {
            return 1 << 2 * count;
        }

        private int lengthOf(int tally) {
            int length = 0;
            for (int m = 0; m < count; m++) {
                length += timesIn(tally, m);
            }
            return length;
        }

        private boolean isEnough(int tally) {
            for (int m = 0; m < count; m++) {
                if (timesIn(tally, m) < at(m).least) {
                    return false;
                }
            }
            return true;
        }

        private int presentIn(int tally) {
            int present = 0;
            for (int m = 0; m < count; m++) {
                if (timesIn(tally, m) > 0) {
                    present |= 1 << m;
                }
            }
            return present;
        }

        /** The set of the members that may stand behind the lists of a tally. */
        private int followers(int tally) {
            int present = presentIn(tally);
            int followers = 0;
            for (int m = 0; m < count; m++) {
                if (timesIn(tally, m) < at(m).most && (at(m).before & present) == 0) {
                    followers |= 1 << m;
                }
            }
            return followers;
        }
    }

    /** The states that can be restored, the oldest one first. */
    private static final class History {
        private final Declarations[] states = new Declarations[MOST_STATES];
        private int count;

        private History() {
            for (int i = 0; i < states.length; i++) {
                states[i] = new Declarations();
            }
        }

        private void record(Declarations now) {
            if (count >= states.length) {
                dropOldest();
            }
            if (count >= 0 && count < states.length) {
                states[count].copyFrom(now);
                count++;
            }
        }

        private void dropOldest() {
            Declarations oldest = states[0];
            for (int i = 1; i < states.length; i++) {
                states[i - 1] = states[i];
            }
            states[states.length - 1] = oldest;
            count = states.length - 1;
        }

        private void restore(Declarations now) {
            if (count > 0 && count <= states.length) {
                count--;
                now.copyFrom(states[count]);
            }
        }
    }

    /** How the text can be read; it stands until the text or the declarations change. */
    private static final class Reading {
        private final int[] ends = new int[TALLIES];
        private final int[] steps = new int[TALLIES];
        private final long[] ways = new long[TALLIES];
        private final int[] members = new int[MOST_OCCURRENCES];
        private final int[] starts = new int[MOST_OCCURRENCES];
        private final int[] numbers = new int[MOST_OCCURRENCES];
        private int count;
        private boolean known;

        private void forget() {
            known = false;
        }

        private void learn(Declarations now, Bytes text) {
            if (known) {
                return;
            }
            findEnds(now, text);
            countWays(now, text);
            listFirst(now, text);
            known = true;
        }

        private boolean exists() {
            return waysFrom(0) > 0;
        }

        /** Where the lists of a tally end in the text, or NONE if none of them fits it. */
        private int endOf(int tally) {
            return tally >= 0 && tally < ends.length ? ends[tally] : NONE;
        }

        /** The set of the members that the text has behind the lists of a tally. */
        private int stepsFrom(int tally) {
            return tally >= 0 && tally < steps.length ? steps[tally] : 0;
        }

        /** In how many ways the lists of a tally that fit the text can be made readings. */
        private long waysFrom(int tally) {
            return tally >= 0 && tally < ways.length ? ways[tally] : 0;
        }

        private int memberAt(int k) {
            return k >= 0 && k < count && k < members.length ? members[k] : NONE;
        }

        private int startAt(int k) {
            return k >= 0 && k < count && k < starts.length ? starts[k] : NONE;
        }

        private int numberAt(int k) {
            return k >= 0 && k < count && k < numbers.length ? numbers[k] : NONE;
        }

        private void findEnds(Declarations now, Bytes text) {
            int tallies = now.tallies();
            for (int t = 0; t < tallies && t < ends.length; t++) {
                ends[t] = t == 0 ? 0 : NONE;
            }
            for (int t = 0; t < tallies && t < steps.length; t++) {
                steps[t] = 0;
                if (endOf(t) >= 0) {
                    steps[t] = findSteps(t, now, text);
                }
            }
        }

        /** The members that go on in the text behind the lists of a tally; marks where they end. */
        private int findSteps(int tally, Declarations now, Bytes text) {
            int start = startBehind(tally, now, text);
            int followers = start >= 0 ? now.followers(tally) : 0;
            int found = 0;
            for (int m = 0; m < now.count; m++) {
                int end = bitOf(followers, m) == 1 ? text.endOf(now.at(m), start) : NONE;
                int longer = withOneMore(tally, m);
                if (end >= 0 && longer >= 0 && longer < ends.length) {
                    ends[longer] = end;
                    found |= 1 << m;
                }
            }
            return found;
        }

        /** Where an occurrence behind the lists of a tally begins, or NONE if none can. */
        private int startBehind(int tally, Declarations now, Bytes text) {
            int end = endOf(tally);
            if (tally == 0 || now.separator == 0) {
                return end;
            }
            return text.at(end) == now.separator ? end + 1 : NONE;
        }

        private void countWays(Declarations now, Bytes text) {
            for (int t = Math.min(now.tallies(), ways.length) - 1; t >= 0; t--) {
                ways[t] = endOf(t) >= 0 ? countFrom(t, now, text) : 0;
            }
        }

        private long countFrom(int tally, Declarations now, Bytes text) {
            long sum = endOf(tally) == text.length && now.isEnough(tally) ? 1 : 0;
            for (int m = 0; m < now.count; m++) {
                if (bitOf(stepsFrom(tally), m) == 1) {
                    sum += waysFrom(withOneMore(tally, m));
                }
            }
            return sum;
        }

        private void listFirst(Declarations now, Bytes text) {
            count = 0;
            int tally = 0;
            for (int k = 0; k < members.length && k < starts.length && k < numbers.length; k++) {
                int m = firstBehind(tally, now);
                if (m < 0) {
                    return;
                }
                int start = startBehind(tally, now, text);
                tally = withOneMore(tally, m);
                members[k] = m;
                starts[k] = start;
                numbers[k] = text.numberIn(now.at(m), start, endOf(tally));
                count++;
            }
        }

        /** The least member behind the lists of a tally in a reading, or NONE. */
        private int firstBehind(int tally, Declarations now) {
            for (int m = 0; m < now.count; m++) {
                if (bitOf(stepsFrom(tally), m) == 1 && waysFrom(withOneMore(tally, m)) > 0) {
                    return m;
                }
            }
            return NONE;
        }

        private int farthest(Declarations now, Bytes text) {
            int farthest = 0;
            for (int t = 0; t < now.tallies(); t++) {
                if (endOf(t) >= 0) {
                    farthest = Math.max(farthest, farthestBehind(t, now, text));
                }
            }
            return farthest;
        }

        private int farthestBehind(int tally, Declarations now, Bytes text) {
            int followers = now.followers(tally);
            int start = startBehind(tally, now, text);
            if (followers == 0 || start < 0) {
                return endOf(tally);
            }
            int farthest = start;
            for (int m = 0; m < now.count; m++) {
                if (bitOf(followers, m) == 1) {
                    farthest = Math.max(farthest, start + text.lettersMatched(now.at(m), start));
                }
            }
            return farthest;
        }

        private int membersGoingOn(Declarations now, Bytes text) {
            boolean isBeginning = false;
            int followers = 0;
            for (int t = 0; t < now.tallies(); t++) {
                if (endOf(t) == text.length) {
                    isBeginning = true;
                    followers |= now.followers(t);
                }
            }
            return isBeginning ? followers : NONE;
        }
    }

    /** How many orders go on from each tally; it stands until the declarations change. */
    private static final class OrderTable {
        private static final int NO_LENGTH = -2;

        private final long[] counts = new long[TALLIES];
        private int knownLength = NO_LENGTH;

        private void forget() {
            knownLength = NO_LENGTH;
        }

        /** Counts the orders of one length, or those of all. */
        private void learn(Declarations now, int length) {
            if (knownLength == length) {
                return;
            }
            for (int t = Math.min(now.tallies(), counts.length) - 1; t >= 0; t--) {
                boolean fits = length == ANY_LENGTH || now.lengthOf(t) == length;
                long ending = fits && now.isEnough(t) ? 1 : 0;
                counts[t] = ending + countBehind(t, now.count, now);
            }
            knownLength = length;
        }

        private long countFrom(int tally) {
            return tally >= 0 && tally < counts.length ? counts[tally] : 0;
        }

        /** The orders that go on from a tally with a member less than the bound. */
        private long countBehind(int tally, int bound, Declarations now) {
            int followers = now.followers(tally);
            long sum = 0;
            for (int m = 0; m < bound; m++) {
                if (bitOf(followers, m) == 1) {
                    sum += countFrom(withOneMore(tally, m));
                }
            }
            return sum;
        }

        private int memberOf(Declarations now, long n, int k) {
            if (n >= countFrom(0)) {
                return NONE;
            }
            long left = n;
            int tally = 0;
            for (int i = 0; i <= k && i < MOST_OCCURRENCES; i++) {
                // The order that ends here comes before those that go on.
                if (now.isEnough(tally)) {
                    left--;
                }
                int m = left < 0 ? NONE : memberBehind(tally, left, now);
                if (m < 0 || i == k) {
                    return m;
                }
                left -= countBehind(tally, m, now);
                tally = withOneMore(tally, m);
            }
            return NONE;
        }

        /** The member with which the order goes on that is number left of those from a tally. */
        private int memberBehind(int tally, long left, Declarations now) {
            for (int m = 0; m < now.count; m++) {
                if (left < countBehind(tally, m + 1, now)) {
                    return m;
                }
            }
            return NONE;
        }

        private long numberOf(Declarations now, Reading reading) {
            long number = 0;
            int tally = 0;
            for (int k = 0; k < reading.count; k++) {
                if (now.isEnough(tally)) {
                    number++;
                }
                number += countBehind(tally, reading.memberAt(k), now);
                tally = withOneMore(tally, reading.memberAt(k));
            }
            return number;
        }
    }
}
