/**
 * Not a story twice: people who have heard stories sit in houses in the evening, and a story may
 * be told in a house just if nobody there but the teller knows it. What each call does is said by
 * the numbered promises of the document.
 */
public final class NotTwice {
    public static final int NONE = -1, BAD = -2, STATE = -3, FULL = -4;
    public static final long NO = -4611686018427387904L;

    private static final int MISSING = -11, OUTSIDE = -12, UNLIKE = -13, TOO_SMALL = -14;
    private static final int FAULT = -100;

    private static final int HOUSES = 4, STORIES = 8, PEOPLE = 8, TEXTS = 6;
    private static final int KINDS = 6, AGES = 100, DIGITS = 10, SETS = 1 << STORIES;
    private static final int LAST_NIGHT = 999, DRAWN_NIGHTS = 40, WAYS = 4096;
    private static final int TAPE = 160, BYTES = 256;

    /** A stranger may come where all the people are already. */
    private static final int SEATS = PEOPLE + 1;

    private static final int LIKES_PART = 0, PAYS_PART = 1, TIRES_PART = 2, PARTS = 3;

    private final Shelf shelf;
    private final Texts texts;
    private final Reader reader;
    private final People now;
    private final People thought;
    private final People image;
    private final Seating seating;
    private final Sheets sheets;
    private boolean imageKept;

    public NotTwice() {
        shelf = new Shelf();
        texts = new Texts();
        reader = new Reader();
        reader.putFirstText();
        if (reader.reads()) {
            texts.add(reader.made());
        }
        reader.empty();
        now = new People(shelf, texts);
        thought = new People(shelf, texts);
        image = new People(shelf, texts);
        seating = new Seating(now);
        sheets = new Sheets();
    }

    // ---- stories, people

    public int story(int kind, int worth, int number) {
        if (!isBelow(kind, KINDS) || !isBelow(worth, DIGITS) || !isBelow(number, DIGITS)) {
            return BAD;
        }
        return shelf.add(kind, worth, number);
    }

    public int twin(int one, int other) {
        if (!shelf.has(one) || !shelf.has(other) || one == other) {
            return BAD;
        }
        shelf.join(one, other);
        return 1;
    }

    public int person(int where, int tells) {
        return now.come(where, tells);
    }

    public int set(int what, int of, int v) {
        if (!now.has(of)) {
            return BAD;
        }
        switch (what) {
            case 0:
                return isHouse(v) ? put(now.house, of, v) : BAD;
            case 1:
                return isBelow(v, AGES) ? put(now.age, of, v) : BAD;
            case 2:
                return isBelow(v, SETS) ? put(now.tells, of, v) : BAD;
            default:
                return BAD;
        }
    }

    public int hears(int person, int story, int is) {
        if (!now.has(person) || !shelf.has(story) || !isBelow(is, 2)) {
            return BAD;
        }
        int had = (now.heard[person] >> story) & 1;
        if (is == 1) {
            now.hear(person, story);
        } else {
            now.forget(person, story);
        }
        return had;
    }

    public int told(int story, int what, int age) {
        if (!shelf.has(story) || !isBelow(age, AGES)) {
            return BAD;
        }
        switch (what) {
            case 0:
                return shelf.kind[story];
            case 1:
                return shelf.worth[story];
            case 2:
                return shelf.number[story];
            case 3:
                return shelf.twin[story];
            case 4:
                return shelf.stays(story);
            case 5:
                return shelf.counts(story, age);
            default:
                return BAD;
        }
    }

    public int one(int person, int what) {
        if (!now.has(person)) {
            return BAD;
        }
        switch (what) {
            case 0:
                return now.house[person];
            case 1:
                return now.age[person];
            case 2:
                return now.tells[person];
            case 3:
                return now.heard[person];
            case 4:
                return now.knows(person);
            default:
                return BAD;
        }
    }

    // ---- texts

    public int feed(int letter) {
        return isBelow(letter, BYTES) ? reader.put(letter) : BAD;
    }

    public int text() {
        if (texts.isFull()) {
            return FULL;
        }
        int answer = reader.reads() ? texts.add(reader.made()) : FAULT - reader.place();
        reader.empty();
        return answer;
    }

    public int force(int text) {
        if (!texts.has(text)) {
            return BAD;
        }
        int was = now.rule;
        now.rule = text;
        return was;
    }

    // ---- evenings

    public int may(int house) {
        return isHouse(house) ? now.tellableIn(house) : BAD;
    }

    public int by(int house, int story) {
        return isHouse(house) && shelf.has(story) ? now.byWhom(house, story) : BAD;
    }

    public long worth(int house, int story) {
        return isHouse(house) && shelf.has(story) ? now.worthOf(house, story) : NO;
    }

    public long most(int house, int what) {
        if (!isHouse(house) || !isBelow(what, 2)) {
            return NO;
        }
        int story = now.bestOf(house);
        if (story == NONE) {
            return NO;
        }
        return what == 0 ? story : now.worthOf(house, story);
    }

    public int tell(int house, int story) {
        return isHouse(house) && shelf.has(story) ? now.spend(house, story) : BAD;
    }

    public int pass() {
        now.sleep();
        return now.night;
    }

    public int goesOn(int house, int what) {
        if (!isHouse(house) || !isBelow(what, 2)) {
            return BAD;
        }
        int hopeful = now.unheardIn(house);
        int longest = 0;
        // The sets come by their bits, so that of like ones the least is found first.
        for (int set = 1; set < SETS; set++) {
            if ((set & ~hopeful) == 0
                    && Integer.bitCount(set) > Integer.bitCount(longest)
                    && canTellAll(house, set)) {
                longest = set;
            }
        }
        return what == 0 ? Integer.bitCount(longest) : longest;
    }

    // ---- who should sit where

    public int spread(int h, int person) {
        if (h < 1 || h > HOUSES || (person != NONE && !now.has(person))) {
            return BAD;
        }
        if (seating.waysOver(h) > WAYS) {
            return BAD;
        }
        seating.search(h);
        return person == NONE ? seating.best : seating.bestSeat[person];
    }

    public int keepAway(int house) {
        if (!isHouse(house)) {
            return BAD;
        }
        thought.takeAll(now);
        int away = NONE;
        int best = NONE;
        for (int p = 0; p < now.size; p++) {
            if (now.house[p] != house) {
                continue;
            }
            thought.house[p] = NONE;
            int stories = Integer.bitCount(thought.tellableIn(house));
            thought.house[p] = house;
            if (stories > best) {
                best = stories;
                away = p;
            }
        }
        return away;
    }

    public int send(int person, int what) {
        if (!now.has(person) || !isBelow(what, 2)) {
            return BAD;
        }
        thought.takeAll(now);
        int where = NONE;
        int best = NONE;
        for (int house = 0; house < HOUSES; house++) {
            thought.house[person] = house;
            int stories = Integer.bitCount(thought.tellableBy(person));
            if (stories > best) {
                best = stories;
                where = house;
            }
        }
        return what == 0 ? where : best;
    }

    public int stranger(int house, int age, int tells) {
        if (!isHouse(house) || !isBelow(age, AGES) || !isBelow(tells, SETS)) {
            return BAD;
        }
        thought.takeAll(now);
        thought.sit(house, age, tells);
        return Integer.bitCount(thought.tellableIn(house)) - Integer.bitCount(now.tellableIn(house));
    }

    public int left() {
        int known = 0;
        for (int p = 0; p < now.size; p++) {
            known |= now.knows(p);
        }
        return shelf.all() & ~known;
    }

    public int judge(int sheet) {
        if (!sheets.has(sheet)) {
            return BAD;
        }
        if (sheets.isMissing(sheet)) {
            return MISSING;
        }
        if (sheets.size[sheet] % 2 != 0) {
            return BAD;
        }
        thought.takeAll(now);
        for (int i = 0; i + 1 < sheets.size[sheet]; i += 2) {
            int house = sheets.at(sheet, i);
            int story = sheets.at(sheet, i + 1);
            if (!isHouse(house) || !shelf.has(story) || thought.spend(house, story) == STATE) {
                return i / 2;
            }
        }
        return NONE;
    }

    public int drawn(int seed, int n) {
        if (n < 0 || n > DRAWN_NIGHTS) {
            return BAD;
        }
        thought.takeAll(now);
        int z = seed;
        int stories = 0;
        for (int night = 0; night < n; night++) {
            for (int p = 0; p < thought.size; p++) {
                z = z * 1103515245 + 12345;
                thought.house[p] = (z >>> 8) % HOUSES;
            }
            for (int house = 0; house < HOUSES; house++) {
                int story = thought.bestOf(house);
                if (story != NONE) {
                    thought.spend(house, story);
                    stories++;
                }
            }
            thought.sleep();
        }
        return stories;
    }

    public int image() {
        image.takeAll(now);
        imageKept = true;
        return now.night;
    }

    public int back() {
        if (!imageKept) {
            return STATE;
        }
        now.goBackTo(image);
        return now.night;
    }

    public int count(int what) {
        switch (what) {
            case 0:
                return shelf.size;
            case 1:
                return now.size;
            case 2:
                return now.night;
            case 3:
                return texts.size;
            case 4:
                return reader.size;
            case 5:
                return now.rule;
            default:
                return BAD;
        }
    }

    // ---- the host

    public int sheet(int sheet, int sort, int n) {
        if (!sheets.has(sheet) || sort < NONE || sort >= Sheets.SORTS) {
            return BAD;
        }
        if (sort == NONE) {
            sheets.lay(sheet, NONE, 0);
            return 1;
        }
        if (n > Sheets.LONGEST) {
            return BAD;
        }
        if (n < 0) {
            return TOO_SMALL;
        }
        sheets.lay(sheet, sort, n);
        return 1;
    }

    public int cell(int sheet, int i, int v) {
        if (!sheets.has(sheet)) {
            return BAD;
        }
        if (sheets.isMissing(sheet)) {
            return MISSING;
        }
        if (!sheets.reaches(sheet, i)) {
            return OUTSIDE;
        }
        sheets.write(sheet, i, v);
        return 1;
    }

    public int copy(int sheet, int i, int other, int j, int n) {
        if (!sheets.has(sheet) || !sheets.has(other)) {
            return BAD;
        }
        if (sheets.isMissing(sheet) || sheets.isMissing(other)) {
            return MISSING;
        }
        if (sheets.sort[sheet] != sheets.sort[other]) {
            return UNLIKE;
        }
        if (!sheets.hasRun(sheet, i, n) || !sheets.hasRun(other, j, n)) {
            return OUTSIDE;
        }
        sheets.carry(sheet, i, other, j, n);
        return n;
    }

    public int people(int sheet, int sort, int from, int n) {
        if (!sheets.has(sheet) || !isBelow(sort, Sheets.SORTS) || n < 0 || n > PEOPLE) {
            return BAD;
        }
        // A missing sheet is of no sort, so it can't be refused as one of another sort.
        if (sheets.isMissing(sheet)) {
            return MISSING;
        }
        if (sheets.sort[sheet] != sort) {
            return UNLIKE;
        }
        int came = 0;
        for (int k = 0; k < n; k++) {
            int i = from + 2 * k;
            if (!sheets.reaches(sheet, i) || !sheets.reaches(sheet, i + 1)) {
                return OUTSIDE;
            }
            if (now.come(sheets.at(sheet, i), sheets.at(sheet, i + 1)) >= 0) {
                came++;
            }
        }
        return came;
    }

    public int taken(int story, int k) {
        if (!isBelow(k, KINDS)) {
            return BAD;
        }
        if (!shelf.has(story)) {
            return MISSING;
        }
        return shelf.isUnder(story, k) ? shelf.number[story] : UNLIKE;
    }

    // ---- what several calls need

    private static boolean isBelow(int v, int bound) {
        return v >= 0 && v < bound;
    }

    private static boolean isHouse(int v) {
        return isBelow(v, HOUSES);
    }

    private static int put(int[] row, int i, int v) {
        int was = row[i];
        row[i] = v;
        return was;
    }

    private boolean canTellAll(int house, int set) {
        thought.takeAll(now);
        for (int s = 0; s < shelf.size; s++) {
            if (((set >> s) & 1) == 1 && thought.spend(house, s) == STATE) {
                return false;
            }
        }
        return true;
    }

    /** The stories that there are. */
    private static final class Shelf {
        private static final int STORY = 0, LONG = 1, CHILD = 2, HALF = 3, RARE = 4, OLD = 5;
        private static final int[] UNDER = {NONE, STORY, STORY, LONG, CHILD, LONG};

        private final int[] kind = new int[STORIES];
        private final int[] worth = new int[STORIES];
        private final int[] number = new int[STORIES];
        private final int[] twin = new int[STORIES];
        private int size;

        private boolean has(int story) {
            return isBelow(story, size);
        }

        private int all() {
            return (1 << size) - 1;
        }

        private int add(int itsKind, int itsWorth, int itsNumber) {
            if (size >= STORIES) {
                return FULL;
            }
            kind[size] = itsKind;
            worth[size] = itsWorth;
            number[size] = itsNumber;
            twin[size] = NONE;
            size++;
            return size - 1;
        }

        private void join(int story, int other) {
            part(story);
            part(other);
            twin[story] = other;
            twin[other] = story;
        }

        private void part(int story) {
            int other = twin[story];
            if (has(other)) {
                twin[other] = NONE;
                twin[story] = NONE;
            }
        }

        private int withTwins(int bits) {
            int all = bits;
            for (int s = 0; s < size && bits != 0; s++) {
                if (((bits >> s) & 1) == 1 && twin[s] != NONE) {
                    all |= 1 << twin[s];
                }
            }
            return all;
        }

        private int counts(int story, int age) {
            int asStory = worth[story];
            int asLong = asStory + 2;
            int asChild = age < 14 ? 2 * asStory : asStory;
            switch (kind[story]) {
                case LONG:
                    return asLong;
                case CHILD:
                    return asChild;
                case HALF:
                    return asLong / 2;
                case RARE:
                    return asChild + number[story];
                case OLD:
                    return age >= 60 ? asLong + 5 : asLong;
                default:
                    return asStory;
            }
        }

        private int stays(int story) {
            int asStory = 30;
            int asLong = asStory + number[story];
            int asChild = asStory / 2;
            switch (kind[story]) {
                case LONG:
                case OLD:
                    return asLong;
                case CHILD:
                    return asChild;
                case HALF:
                    return Math.max(0, asLong - 20);
                case RARE:
                    return 2 * asChild;
                default:
                    return asStory;
            }
        }

        private boolean isUnder(int story, int k) {
            int at = kind[story];
            for (int step = 0; step < KINDS && at != NONE; step++) {
                if (at == k) {
                    return true;
                }
                at = UNDER[at];
            }
            return false;
        }
    }

    /** The signs of a text as numbers; those that reckon stand so in a rule's code, too. */
    private static final class Sign {
        private static final int NAMES = 6;
        /** The keys of the parts stand from LIKES on, in the order of the parts. */
        private static final int OR = 6, AND = 7, NOT = 8, LIKES = 9;
        private static final int FIRST = 12;
        private static final int OPEN = 12, CLOSE = 13, STOP = 14, PLUS = 15, MINUS = 16;
        private static final int TIMES = 17, LESS = 18, SAME = 19;
        private static final int NEGATE = 20, END = 21, WRONG = 22;
        private static final int NUMBER = 32;

        /** Each word's number is its place here: the names, then the keys. */
        private static final String WORDS =
                "age worth heard many night own or and not likes pays tires ";
        /** Each sign's number is its place here, from FIRST on. */
        private static final String SIGNS = "();+-*<=";
    }

    /** A text that has been read: its three parts, each as code for a stack. */
    private static final class Rule {
        private final int[] code;
        private final int paysAt;
        private final int tiresAt;

        private Rule(int[] row, int size, int paysAt, int tiresAt) {
            code = new int[size];
            System.arraycopy(row, 0, code, 0, size);
            this.paysAt = paysAt;
            this.tiresAt = tiresAt;
        }

        private int value(int part, int[] names, int[] stack) {
            int from = part == LIKES_PART ? 0 : part == PAYS_PART ? paysAt : tiresAt;
            int to = part == LIKES_PART ? paysAt : part == PAYS_PART ? tiresAt : code.length;
            int top = 0;
            for (int i = from; i < to; i++) {
                int c = code[i];
                if (c < Sign.NAMES || c >= Sign.NUMBER) {
                    if (top < stack.length) {
                        stack[top] = c < Sign.NAMES ? names[c] : c - Sign.NUMBER;
                        top++;
                    }
                } else if (c == Sign.NOT || c == Sign.NEGATE) {
                    if (top >= 1) {
                        int last = stack[top - 1];
                        stack[top - 1] = c == Sign.NEGATE ? -last : last == 0 ? 1 : 0;
                    }
                } else if (top >= 2) {
                    top--;
                    stack[top - 1] = joined(c, stack[top - 1], stack[top]);
                }
            }
            return top >= 1 ? stack[0] : 0;
        }

        private static int joined(int sign, int a, int b) {
            switch (sign) {
                case Sign.OR:
                    return a != 0 || b != 0 ? 1 : 0;
                case Sign.AND:
                    return a != 0 && b != 0 ? 1 : 0;
                case Sign.LESS:
                    return a < b ? 1 : 0;
                case Sign.SAME:
                    return a == b ? 1 : 0;
                case Sign.PLUS:
                    return a + b;
                case Sign.MINUS:
                    return a - b;
                default:
                    return a * b;
            }
        }
    }

    /** The texts that there are, and the rows that their reckoning needs. */
    private static final class Texts {
        /** Five values may wait on each of six levels (none to five brackets) for one more. */
        private static final int STACK = 5 * 6 + 1;

        private final Rule[] rules = new Rule[TEXTS];
        private final int[] names = new int[Sign.NAMES];
        private final int[] stack = new int[STACK];
        private int size;

        private boolean has(int text) {
            return isBelow(text, size);
        }

        private Rule at(int text) {
            return text >= 0 && text < size ? rules[text] : null;
        }

        private boolean isFull() {
            return size >= TEXTS;
        }

        private int add(Rule rule) {
            if (isFull()) {
                return FULL;
            }
            rules[size] = rule;
            size++;
            return size - 1;
        }
    }

    /** The tape, and the reading of a text from it. */
    private static final class Reader {
        private static final int DEEPEST = 5, LONGEST_NUMBER = 4;
        private static final int OR_LEVEL = 0, AND_LEVEL = 1, NOT_LEVEL = 2, SUM_LEVEL = 3;
        private static final int TERM_LEVEL = 4, ONE_LEVEL = 5;
        private static final String FIRST_TEXT =
                "likes worth + ( age < 14 ) * 2 ; pays 0 - many ; tires own < 1 ;";

        private final int[] tape = new int[TAPE];
        private int size;
        private int at;
        private int token;
        private int tokenAt;
        private int open;
        /** Each sign on the tape makes one number of code at most. */
        private final int[] code = new int[TAPE];
        private int codeSize;
        /** Where the code of each part begins. */
        private final int[] partAt = new int[PARTS];

        private int put(int letter) {
            if (size >= TAPE) {
                return FULL;
            }
            tape[size] = letter;
            size++;
            return size;
        }

        private void putFirstText() {
            for (int i = 0; i < FIRST_TEXT.length(); i++) {
                put(FIRST_TEXT.charAt(i));
            }
        }

        private void empty() {
            size = 0;
        }

        /** Where the sign begins that stopped the reading. */
        private int place() {
            return tokenAt;
        }

        private Rule made() {
            return new Rule(code, codeSize, partAt[PAYS_PART], partAt[TIRES_PART]);
        }

        /** Reading stops at the first sign that can't stand where it does. */
        private boolean reads() {
            at = 0;
            open = 0;
            codeSize = 0;
            step();
            boolean fine = true;
            for (int part = 0; part < PARTS && fine; part++) {
                partAt[part] = codeSize;
                fine = takes(Sign.LIKES + part) && readsLevel(OR_LEVEL) && takes(Sign.STOP);
            }
            return fine && token == Sign.END;
        }

        /** What a level's signs join, or just one such thing; the next level binds more closely. */
        private boolean readsLevel(int level) {
            if (level == NOT_LEVEL && token == Sign.NOT) {
                return readsOpened();
            }
            if (level >= ONE_LEVEL) {
                return token == Sign.MINUS || token == Sign.OPEN ? readsOpened() : readsPlain();
            }
            boolean fine = readsLevel(level + 1);
            int most = level == NOT_LEVEL ? 1 : TAPE;
            for (int i = 0; i < most && fine && levelOf(token) == level; i++) {
                int sign = token;
                step();
                fine = readsLevel(level + 1);
                write(sign);
            }
            return fine;
        }

        private static int levelOf(int sign) {
            switch (sign) {
                case Sign.OR:
                    return OR_LEVEL;
                case Sign.AND:
                    return AND_LEVEL;
                case Sign.LESS:
                case Sign.SAME:
                    return NOT_LEVEL;
                case Sign.PLUS:
                case Sign.MINUS:
                    return SUM_LEVEL;
                case Sign.TIMES:
                    return TERM_LEVEL;
                default:
                    return NONE;
            }
        }

        /** A bracket, a not or a minus, and what belongs to it; so many may be open at once. */
        private boolean readsOpened() {
            int sign = token;
            if (open >= DEEPEST) {
                return false;
            }
            open++;
            step();
            boolean fine;
            if (sign == Sign.OPEN) {
                fine = readsLevel(OR_LEVEL) && takes(Sign.CLOSE);
            } else {
                fine = readsLevel(sign == Sign.NOT ? NOT_LEVEL : ONE_LEVEL);
                write(sign == Sign.NOT ? Sign.NOT : Sign.NEGATE);
            }
            open--;
            return fine;
        }

        private boolean readsPlain() {
            if (token >= Sign.NAMES && token < Sign.NUMBER) {
                return false;
            }
            write(token);
            step();
            return true;
        }

        private boolean takes(int wanted) {
            if (token != wanted) {
                return false;
            }
            step();
            return true;
        }

        private void write(int c) {
            if (codeSize < TAPE) {
                code[codeSize] = c;
                codeSize++;
            }
        }

        private void step() {
            while (at < size && (tape[at] == ' ' || tape[at] == '\n')) {
                at++;
            }
            tokenAt = at;
            if (at >= size) {
                token = Sign.END;
            } else if (isLetter(tape[at])) {
                token = word();
            } else if (isDigit(tape[at])) {
                token = numeral();
            } else {
                int sign = Sign.SIGNS.indexOf((char) tape[at]);
                token = sign < 0 ? Sign.WRONG : Sign.FIRST + sign;
                at++;
            }
        }

        private static boolean isLetter(int c) {
            return c >= 'a' && c <= 'z';
        }

        private static boolean isDigit(int c) {
            return c >= '0' && c <= '9';
        }

        private int numeral() {
            int v = 0;
            while (at < size && isDigit(tape[at])) {
                v = at - tokenAt < LONGEST_NUMBER ? 10 * v + tape[at] - '0' : v;
                at++;
            }
            return at - tokenAt > LONGEST_NUMBER ? Sign.WRONG : Sign.NUMBER + v;
        }

        private int word() {
            while (at < size && isLetter(tape[at])) {
                at++;
            }
            int number = 0;
            int same = 0;
            for (int i = 0; i < Sign.WORDS.length(); i++) {
                char c = Sign.WORDS.charAt(i);
                if (c == ' ') {
                    if (same == at - tokenAt) {
                        return number;
                    }
                    number++;
                    same = 0;
                } else if (same != NONE) {
                    same = same < at - tokenAt && tape[tokenAt + same] == c ? same + 1 : NONE;
                }
            }
            return Sign.WRONG;
        }
    }

    /** People as they are, as they were, or as they are thought to be. */
    private static final class People {
        private final Shelf shelf;
        private final Texts texts;
        private final int[] house = new int[SEATS];
        private final int[] age = new int[SEATS];
        private final int[] tells = new int[SEATS];
        private final int[] heard = new int[SEATS];
        private final int[] since = new int[SEATS * STORIES];
        private int size;
        private int night;
        private int rule;

        /** What the last look at a house found: how many sit there, and what they know. */
        private int many;
        private final int[] known = new int[SEATS];
        private int knownToOne;
        private int knownToTwo;

        private People(Shelf shelf, Texts texts) {
            this.shelf = shelf;
            this.texts = texts;
        }

        private boolean has(int person) {
            return isBelow(person, size);
        }

        private int come(int where, int stories) {
            if (!isBelow(where, HOUSES * AGES) || !isBelow(stories, SETS)) {
                return BAD;
            }
            if (size >= PEOPLE) {
                return FULL;
            }
            sit(where / AGES, where % AGES, stories);
            return size - 1;
        }

        private void sit(int where, int itsAge, int stories) {
            if (size >= SEATS) {
                return;
            }
            house[size] = where;
            age[size] = itsAge;
            tells[size] = stories;
            heard[size] = 0;
            size++;
        }

        private void takeAll(People other) {
            size = other.size;
            System.arraycopy(other.age, 0, age, 0, size);
            System.arraycopy(other.tells, 0, tells, 0, size);
            goBackTo(other);
        }

        /** Those who came since are not in the image, and stay as they are. */
        private void goBackTo(People other) {
            System.arraycopy(other.house, 0, house, 0, other.size);
            System.arraycopy(other.heard, 0, heard, 0, other.size);
            System.arraycopy(other.since, 0, since, 0, other.size * STORIES);
            night = other.night;
            rule = other.rule;
        }

        private void hear(int person, int story) {
            heard[person] |= 1 << story;
            since[person * STORIES + story] = night;
        }

        private void forget(int person, int story) {
            heard[person] &= ~(1 << story);
        }

        private int knows(int person) {
            return shelf.withTwins(heard[person]);
        }

        private void lookInto(int where) {
            many = 0;
            knownToOne = 0;
            knownToTwo = 0;
            for (int p = 0; p < size; p++) {
                if (house[p] == where) {
                    many++;
                    known[p] = knows(p);
                    knownToTwo |= knownToOne & known[p];
                    knownToOne |= known[p];
                }
            }
        }

        /** In the house looked into: what nobody knows who sits there beside one. */
        private int newToOthers(int person) {
            return shelf.all() & ~knownToTwo & ~(knownToOne & ~known[person]);
        }

        /** In the house looked into: which of some stories may be told by one. */
        private int tellableOf(int person, int some) {
            if (many < 2) {
                return 0;
            }
            int left = some & tells[person] & newToOthers(person);
            for (int s = 0; s < shelf.size; s++) {
                if (((left >> s) & 1) == 1 && value(TIRES_PART, person, s, many) != 0) {
                    left &= ~(1 << s);
                }
            }
            return left;
        }

        private int tellableBy(int person) {
            lookInto(house[person]);
            return tellableOf(person, shelf.all());
        }

        private int tellableIn(int where) {
            lookInto(where);
            int bits = 0;
            for (int p = 0; p < size; p++) {
                if (house[p] == where) {
                    bits |= tellableOf(p, ~bits);
                }
            }
            return bits;
        }

        /** What could be told if nobody tired: what is known stays so while others are told. */
        private int unheardIn(int where) {
            lookInto(where);
            int bits = 0;
            for (int p = 0; p < size; p++) {
                if (house[p] == where) {
                    bits |= tells[p] & newToOthers(p);
                }
            }
            return bits;
        }

        private int byWhom(int where, int story) {
            lookInto(where);
            return firstTeller(where, story);
        }

        /** In the house looked into: the first by whom a story may be told. */
        private int firstTeller(int where, int story) {
            for (int p = 0; p < size; p++) {
                if (house[p] == where && tellableOf(p, 1 << story) != 0) {
                    return p;
                }
            }
            return NONE;
        }

        private long worthOf(int where, int story) {
            lookInto(where);
            int teller = firstTeller(where, story);
            return teller == NONE ? NO : worthBy(teller, story);
        }

        private long worthBy(int teller, int story) {
            int all = bounded(value(PAYS_PART, teller, story, many), -99);
            for (int p = 0; p < size; p++) {
                if (p != teller && house[p] == house[teller]) {
                    all += bounded(value(LIKES_PART, p, story, many), 0);
                }
            }
            return all;
        }

        private int bestOf(int where) {
            lookInto(where);
            int best = NONE;
            long most = NO;
            for (int s = 0; s < shelf.size; s++) {
                int teller = firstTeller(where, s);
                long itsWorth = teller == NONE ? NO : worthBy(teller, s);
                if (itsWorth > most) {
                    most = itsWorth;
                    best = s;
                }
            }
            return best;
        }

        /** A story is told, if it may be: how many heard it. */
        private int spend(int where, int story) {
            lookInto(where);
            int teller = firstTeller(where, story);
            if (teller == NONE) {
                return STATE;
            }
            for (int p = 0; p < size; p++) {
                if (p != teller && house[p] == where) {
                    hear(p, story);
                }
            }
            return many - 1;
        }

        private void sleep() {
            night = Math.min(LAST_NIGHT, night + 1);
            for (int s = 0; s < shelf.size; s++) {
                int gone = night - shelf.stays(s);
                for (int p = 0; p < size; p++) {
                    if (since[p * STORIES + s] <= gone) {
                        forget(p, s);
                    }
                }
            }
        }

        /** A part of the rule for one and a story, where so many sit. */
        private int value(int part, int person, int story, int company) {
            Rule itsRule = texts.at(rule);
            if (itsRule == null) {
                return 0;
            }
            int[] names = texts.names;
            names[0] = age[person];
            names[1] = shelf.counts(story, age[person]);
            names[2] = Integer.bitCount(heard[person]);
            names[3] = company;
            names[4] = night;
            names[5] = Integer.bitCount(tells[person]);
            return itsRule.value(part, names, texts.stack);
        }

        private static int bounded(int v, int least) {
            return Math.max(least, Math.min(99, v));
        }
    }

    /** The search for a way to sit by which most houses have a story. */
    private static final class Seating {
        private final People people;
        private final int[] seat = new int[PEOPLE];
        private final int[] bestSeat = new int[PEOPLE];
        private int best;

        private final int[] known = new int[PEOPLE];
        /** What one can tell and isn't tired of, by how many sit there. */
        private final int[] awake = new int[PEOPLE * SEATS];

        private final int[] many = new int[HOUSES];
        private final int[] knownToOne = new int[HOUSES];
        private final int[] knownToTwo = new int[HOUSES];

        private Seating(People people) {
            this.people = people;
        }

        private int waysOver(int h) {
            int ways = 1;
            for (int p = 0; p < people.size; p++) {
                ways *= h;
            }
            return ways;
        }

        /** The ways come by their digits, so that of like ones the least is found first. */
        private void search(int h) {
            prepare();
            best = NONE;
            int ways = waysOver(h);
            // A house with a story has two there at least, so that no way can reach beyond this.
            int bound = Math.min(h, people.size / 2);
            for (int way = 0; way < ways && best < bound; way++) {
                int houses = housesWithStory(h);
                if (houses > best) {
                    best = houses;
                    System.arraycopy(seat, 0, bestSeat, 0, PEOPLE);
                }
                nextWay(h);
            }
        }

        private void prepare() {
            for (int p = 0; p < people.size; p++) {
                seat[p] = 0;
                known[p] = people.knows(p);
                for (int company = 2; company <= people.size; company++) {
                    awake[p * SEATS + company] = awakeOf(p, company);
                }
            }
        }

        private int awakeOf(int p, int company) {
            int bits = people.tells[p] & people.shelf.all();
            for (int s = 0; s < people.shelf.size; s++) {
                if (((bits >> s) & 1) == 1 && people.value(TIRES_PART, p, s, company) != 0) {
                    bits &= ~(1 << s);
                }
            }
            return bits;
        }

        private void nextWay(int h) {
            for (int p = 0; p < people.size; p++) {
                seat[p]++;
                if (seat[p] < h) {
                    return;
                }
                seat[p] = 0;
            }
        }

        private int housesWithStory(int h) {
            fillHouses(h);
            int houses = 0;
            for (int p = 0; p < people.size; p++) {
                int where = seat[p];
                int others = knownToTwo[where] | (knownToOne[where] & ~known[p]);
                if (many[where] >= 2 && (awake[p * SEATS + many[where]] & ~others) != 0) {
                    houses |= 1 << where;
                }
            }
            return Integer.bitCount(houses);
        }

        private void fillHouses(int h) {
            for (int where = 0; where < h; where++) {
                many[where] = 0;
                knownToOne[where] = 0;
                knownToTwo[where] = 0;
            }
            for (int p = 0; p < people.size; p++) {
                int where = seat[p];
                many[where]++;
                knownToTwo[where] |= knownToOne[where] & known[p];
                knownToOne[where] |= known[p];
            }
        }
    }

    /** Rows of numbers from the host, one behind the other, each as long as one can be. */
    private static final class Sheets {
        private static final int HOW_MANY = 4, SORTS = 3, LONGEST = 40;
        private static final int OF_BYTES = 0, OF_SHORTS = 1;

        private final int[] sort = new int[HOW_MANY];
        private final int[] size = new int[HOW_MANY];
        private final int[] items = new int[HOW_MANY * LONGEST];

        private Sheets() {
            for (int sheet = 0; sheet < HOW_MANY; sheet++) {
                sort[sheet] = NONE;
            }
        }

        private boolean has(int sheet) {
            return isBelow(sheet, HOW_MANY);
        }

        private boolean isMissing(int sheet) {
            return sort[sheet] == NONE;
        }

        private boolean reaches(int sheet, int i) {
            return isBelow(i, size[sheet]);
        }

        /** Written so that no sum can run over. */
        private boolean hasRun(int sheet, int i, int n) {
            return n >= 0 && n <= size[sheet] && i >= 0 && i <= size[sheet] - n;
        }

        private void lay(int sheet, int itsSort, int n) {
            sort[sheet] = itsSort;
            size[sheet] = n;
            for (int i = 0; i < LONGEST; i++) {
                items[sheet * LONGEST + i] = 0;
            }
        }

        private int at(int sheet, int i) {
            return items[sheet * LONGEST + i];
        }

        private void write(int sheet, int i, int v) {
            int kept = sort[sheet] == OF_BYTES ? (byte) v : sort[sheet] == OF_SHORTS ? (short) v : v;
            items[sheet * LONGEST + i] = kept;
        }

        private void carry(int sheet, int i, int other, int j, int n) {
            System.arraycopy(items, sheet * LONGEST + i, items, other * LONGEST + j, n);
        }
    }
}
