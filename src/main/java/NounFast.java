import java.util.NoSuchElementException;

/**
 * A city of places, things with marks and persons who know some of the marks;
 * on one day of seven no thing may be named there.
 */
public final class NounFast {
    public static final int NONE = -1;

    private static final int MOST_TAPE = 940;
    private static final int MOST_CITY_BYTES = 900;
    private static final int MOST_BOOK_BYTES = 400;
    private static final int MOST_SENTENCE_BYTES = 200;
    private static final int FED_BYTES = 20;
    private static final int MOST_LINES = 40;
    private static final int MOST_ONES = 20;
    private static final int MOST_WITHIN = 8;
    private static final int MOST_MARKS = 10;
    private static final int MOST_THINGS = 8;
    private static final int MOST_PERSONS = 6;
    private static final int MOST_COINS = 99;
    private static final int MOST_UNDONE = 8;
    private static final int MOST_ROUNDS = 10;
    private static final int MOST_HEARD = 8;
    private static final int IMAGES = 2;
    private static final int LAST_DAY = 400;
    private static final int WEEK = 7;
    private static final int MOST_DAYS = 60;
    private static final int MOST_SEEDS = 30;
    private static final int ODDS_DAYS = 20;
    private static final int OTHER_LIVES = -1000;

    private static final int FAULT_TOKEN = 1;
    private static final int FAULT_NUMBER = 2;
    private static final int FAULT_NAME = 3;
    private static final int FAULT_MANY = 4;

    // The kinds of tokens; a sign's kind is its own byte. A BAD one is none, so it can come nowhere.
    private static final int END = 0;
    private static final int NAME = 1;
    private static final int PLAIN = 2;
    private static final int NUMBER = 3;
    private static final int BAD = 4;

    private static final int WORD_LETTERS = 7;
    private static final int NUMBER_DIGITS = 3;
    private static final int MOST_NUMBER = 999;
    private static final int LETTER_BITS = 5;

    // The words that are no names, eight signs each; a word's number is its place along the three rows.
    private static final int WORD_ROOM = 8;
    private static final String CITY_WORDS =
        "place   mark    thing   person  fine    mite    wage    fast    is      knows   foreign ";
    private static final String BOOK_WORDS =
        "goes    asks    names   points  puts    learns  day     ";
    private static final String SENTENCE_WORDS =
        "or      and     not     carried lone    has     at      with    marks   named   number  ";

    // The first four are the sorts of names too, the first eight what count() tells.
    private static final int PLACE = 0;
    private static final int MARK = 1;
    private static final int THING = 2;
    private static final int PERSON = 3;
    private static final int FINE = 4;
    private static final int MITE = 5;
    private static final int WAGE = 6;
    private static final int FAST = 7;
    private static final int IS = 8;
    private static final int KNOWS = 9;
    private static final int FOREIGN = 10;
    private static final int GOES = 11;
    private static final int ASKS = 12;
    private static final int NAMES = 13;
    private static final int POINTS = 14;
    private static final int PUTS = 15;
    private static final int LEARNS = 16;
    private static final int DAY = 17;
    private static final int OR = 18;
    private static final int AND = 19;
    private static final int NOT = 20;
    private static final int CARRIED = 21;
    private static final int LONE = 22;
    private static final int HAS = 23;
    private static final int AT = 24;
    private static final int WITH = 25;
    private static final int MARKS = 26;
    private static final int NAMED = 27;
    private static final int NUMBERED = 28;

    private static final int SORTS = 4;
    private static final int SORT_ROOM = 10;
    private static final int[] MOST_OF_SORT = {4, 10, 8, 6};
    private static final int[] LEAST_SETTING = {1, 0, 0, 0};
    private static final int[] MOST_SETTING = {20, 9, 9, 6};

    private static final int PHRASE_ROOM = 96;

    private final Tape tape = new Tape();
    private final Text text = new Text(tape);
    private final Scene scene = new Scene(new City());
    private final Scene trial = new Scene(scene.city);
    private final History history = new History();
    private final Book reader = new Book();
    private final Rest calm = new Rest();
    private final Clue clue = new Clue();
    private final Dice dice = new Dice();
    private final Scene[] imageScenes = new Scene[IMAGES];
    private final Sentence[] imageSentences = new Sentence[IMAGES];
    private final byte[] phraseBytes = new byte[PHRASE_ROOM];
    private int phraseLength = 0;
    private Sentence judgement = null;
    private int latestFault = 0;
    private int latestSaying = NONE;
    private int latestCovering = NONE;
    private int latestCanting = NONE;

    public NounFast() {
    }

    public int feed(int a, int b, int c, int d, int e) {
        if (tape.length + FED_BYTES > MOST_TAPE) {
            return NONE;
        }
        tape.append(a);
        tape.append(b);
        tape.append(c);
        tape.append(d);
        tape.append(e);
        return tape.length;
    }

    public boolean end(int n) {
        if (n < 0 || n > tape.length) {
            return false;
        }
        tape.length = n;
        return true;
    }

    public int city() {
        City fresh = new City();
        text.open(MOST_CITY_BYTES);
        int lines = fresh.read(text);
        closeText();
        if (text.fault != 0) {
            return -1 - text.faultPlace;
        }
        scene.begin(fresh);
        judgement = null;
        history.clear();
        return lines;
    }

    public int fault() {
        return latestFault;
    }

    public int thing(int t, int what) throws NoSuchElementException {
        if (!scene.has(THING, t)) {
            throw new NoSuchElementException("no such thing");
        }
        switch (what) {
            case 0:
                return scene.placeOf(t);
            case 1:
                return scene.carrier[t];
            case 2:
                return scene.city.marks[t];
            case 3:
                return scene.named[t];
            default:
                throw new NoSuchElementException("nothing such of a thing");
        }
    }

    public int person(int p, int what) throws NoSuchElementException {
        if (!scene.has(PERSON, p)) {
            throw new NoSuchElementException("no such person");
        }
        switch (what) {
            case 0:
                return scene.personPlace[p];
            case 1:
                return scene.coins[p];
            case 2:
                return scene.knows[p];
            case 3:
                return scene.carriedBy(p);
            case 4:
                return scene.city.isForeign(p) ? 1 : 0;
            default:
                throw new NoSuchElementException("nothing such of a person");
        }
    }

    public int lies(int l) {
        return scene.has(PLACE, l) ? scene.lyingAt(l) : NONE;
    }

    public int now(int what) {
        switch (what) {
            case 0:
                return scene.day;
            case 1:
                return scene.isFast() ? 1 : 0;
            case 2:
                return scene.allCoins();
            case 3:
                return scene.allCarried();
            case 4:
                return scene.guesses;
            case 5:
                return scene.fines;
            case 6:
                return Math.floorMod(scene.city.counts[FAST] - scene.day, WEEK);
            default:
                return NONE;
        }
    }

    public int go(int p, int l) {
        if (!scene.has(PERSON, p) || !scene.has(PLACE, l)) {
            return NONE;
        }
        history.prepare(scene);
        return kept(scene.walk(p, l));
    }

    public int ask(int p, int q, int saying) {
        if (!scene.has(PERSON, p) || !scene.has(PERSON, q) || saying == 0 || !scene.city.hasMarks(saying)) {
            return NONE;
        }
        history.prepare(scene);
        return kept(scene.request(p, q, saying));
    }

    public int name(int p, int t) {
        if (!scene.has(PERSON, p) || !scene.has(THING, t)) {
            return NONE;
        }
        history.prepare(scene);
        return kept(scene.callByName(p, t));
    }

    public int point(int p, int t) {
        if (!scene.has(PERSON, p) || !scene.has(THING, t)) {
            return NONE;
        }
        history.prepare(scene);
        return kept(scene.pointAt(p, t));
    }

    public int put(int p, int t) {
        if (!scene.has(PERSON, p) || !scene.has(THING, t)) {
            return NONE;
        }
        history.prepare(scene);
        return kept(scene.drop(p, t));
    }

    public int learn(int p, int q) {
        if (!scene.has(PERSON, p) || !scene.has(PERSON, q)) {
            return NONE;
        }
        history.prepare(scene);
        return kept(scene.study(p, q));
    }

    public int days(int n) {
        if (n < 1 || n > MOST_DAYS) {
            return NONE;
        }
        history.prepare(scene);
        return keptDays(scene.passDays(n));
    }

    public int undo() {
        return history.takeBack(scene);
    }

    public int fits(int q, int l, int saying) {
        if (!scene.has(PERSON, q) || !scene.has(PLACE, l) || !scene.city.hasMarks(saying)) {
            return NONE;
        }
        return scene.fitting(scene.lyingAt(l), scene.knows[q], saying);
    }

    public int say(int t, int q) {
        if (!scene.has(THING, t) || !scene.has(PERSON, q) || !scene.isLying(t)) {
            return NONE;
        }
        int best = Minds.leastSaying(scene, t, q);
        if (best == NONE) {
            return NONE;
        }
        latestSaying = best;
        return Integer.bitCount(best);
    }

    public int saying() {
        return latestSaying;
    }

    public int twin(int t, int q) {
        if (!scene.has(THING, t) || !scene.has(PERSON, q) || !scene.isLying(t)) {
            return NONE;
        }
        return Minds.twinOf(scene, scene.lyingAt(scene.placeOf(t)), t, scene.knows[q]);
    }

    public int slip(int t, int q, int what) throws NoSuchElementException {
        if (what != 0 && what != 1) {
            throw new NoSuchElementException("a fraction has two numbers");
        }
        if (!scene.has(THING, t) || !scene.has(PERSON, q)) {
            throw new NoSuchElementException("no such ones");
        }
        int all = Integer.bitCount(scene.city.marks[t]);
        if (!scene.isLying(t) || all == 0) {
            throw new NoSuchElementException("it is carried or has no marks");
        }
        int wrong = Minds.slips(scene, t, q);
        int shared = greatestShared(wrong, all);
        int told = what == 0 ? wrong : all;
        return shared > 1 ? told / shared : told;
    }

    public int cover(int q) {
        if (!scene.has(PERSON, q)) {
            return NONE;
        }
        int best = Minds.leastCover(scene, scene.personPlace[q]);
        if (best == NONE) {
            return NONE;
        }
        latestCovering = best;
        return Integer.bitCount(best);
    }

    public int covering() {
        return latestCovering;
    }

    public int spoken() {
        int sayings = clue.hear(tape, scene);
        tape.length = 0;
        return sayings;
    }

    public int surely() {
        return clue.sure;
    }

    public int show() {
        return clue.next;
    }

    public int cant(int p, int q, int t, int u) {
        if (!scene.has(PERSON, p) || !scene.has(PERSON, q) || !scene.has(THING, t) || !scene.has(THING, u)) {
            return NONE;
        }
        if (t == u || !scene.isLying(t) || !scene.isLying(u) || scene.placeOf(t) != scene.placeOf(u)) {
            return NONE;
        }
        int best = Minds.leastCant(scene, p, q, t, u);
        if (best == NONE) {
            return NONE;
        }
        latestCanting = best;
        return Integer.bitCount(best);
    }

    public int canting() {
        return latestCanting;
    }

    public int rest(int l) {
        return scene.has(PLACE, l) ? calm.settle(scene, l) : NONE;
    }

    public int rested(int t) {
        return t >= 0 && t < MOST_THINGS ? calm.saidBy[t] : NONE;
    }

    public int news(int p) {
        return scene.has(PERSON, p) ? Minds.hoursOfNews(scene, p) : NONE;
    }

    public int phrase(int t) {
        if (!scene.has(THING, t)) {
            return NONE;
        }
        phraseLength = 0;
        if (scene.isFast()) {
            spellRoundabout(t);
        } else {
            spellName(scene.city.nameOf(THING, t));
        }
        return phraseLength;
    }

    public int byteAt(int i) {
        return i >= 0 && i < phraseLength && i < PHRASE_ROOM ? phraseBytes[i] : NONE;
    }

    public int drawn(int n, int seed) {
        if (n < 1 || n > MOST_DAYS || scene.city.counts[PERSON] == 0) {
            return NONE;
        }
        history.prepare(scene);
        dice.x = seed;
        return keptDays(dice.live(scene, n));
    }

    public int odds(int t, int n, int seed) {
        if (!scene.has(THING, t) || n < 1 || n > MOST_SEEDS || scene.city.counts[PERSON] == 0) {
            return NONE;
        }
        int carried = 0;
        for (int i = 0; i < n; i++) {
            trial.copyFrom(scene);
            dice.x = seed + i;
            dice.live(trial, ODDS_DAYS);
            if (!trial.isLying(t)) {
                carried++;
            }
        }
        return carried;
    }

    public int book(int lives) {
        if (lives != 0 && lives != 1) {
            return OTHER_LIVES;
        }
        text.open(MOST_BOOK_BYTES);
        reader.read(text, scene.city);
        closeText();
        if (text.fault != 0) {
            return -2 - text.faultPlace;
        }
        if (lives == 0) {
            trial.copyFrom(scene);
            return reader.judge(trial);
        }
        history.prepare(scene);
        history.keep();
        return reader.judge(scene);
    }

    public int told(int what) {
        return reader.tell(what);
    }

    public int sentence() {
        Sentence fresh = new Sentence();
        text.open(MOST_SENTENCE_BYTES);
        fresh.readCondition(text, scene.city, 1);
        text.takeEnd();
        closeText();
        if (text.fault != 0) {
            return -1 - text.faultPlace;
        }
        judgement = fresh;
        return fresh.ones;
    }

    public int said(int k) {
        if (judgement == null) {
            return NONE;
        }
        int things = judgement.thingsIn(scene);
        return k == NONE ? Integer.bitCount(things) : bitAt(things, k);
    }

    public boolean image(int k) {
        if (k < 0 || k >= IMAGES) {
            return false;
        }
        Scene kept = imageScenes[k];
        if (kept == null) {
            kept = new Scene(scene.city);
            imageScenes[k] = kept;
        }
        kept.copyFrom(scene);
        imageSentences[k] = judgement;
        return true;
    }

    public boolean restore(int k) {
        if (k < 0 || k >= IMAGES) {
            return false;
        }
        Scene kept = imageScenes[k];
        if (kept == null) {
            return false;
        }
        scene.copyFrom(kept);
        judgement = imageSentences[k];
        history.clear();
        return true;
    }

    public int count(int what) {
        if (what == FAST + 1) {
            return tape.length;
        }
        return what >= PLACE && what <= FAST ? scene.city.counts[what] : NONE;
    }

    private void closeText() {
        latestFault = text.fault;
        tape.length = 0;
    }

    /** What an act answered; one that was done can be undone from now on. */
    private int kept(int whyNot) {
        if (whyNot == 0) {
            history.keep();
        }
        return whyNot;
    }

    private int keptDays(int went) {
        if (went > 0) {
            history.keep();
        }
        return went;
    }

    private void spellRoundabout(int t) {
        spellByte('t');
        spellByte('h');
        spellByte('e');
        for (int m = 0; m < MOST_MARKS; m++) {
            if ((scene.city.marks[t] >> m & 1) == 1) {
                spellByte(' ');
                spellName(scene.city.nameOf(MARK, m));
            }
        }
        spellByte(' ');
        spellByte('o');
        spellByte('n');
        spellByte('e');
    }

    private void spellName(long key) {
        for (int shift = (WORD_LETTERS - 1) * LETTER_BITS; shift >= 0; shift -= LETTER_BITS) {
            int letter = (int) (key >>> shift) & 31;
            if (letter != 0) {
                spellByte('a' - 1 + letter);
            }
        }
    }

    private void spellByte(int sign) {
        if (phraseLength >= 0 && phraseLength < PHRASE_ROOM) {
            phraseBytes[phraseLength] = (byte) sign;
            phraseLength++;
        }
    }

    private static int greatestShared(int part, int whole) {
        for (int d = whole; d > 1; d--) {
            if (part % d == 0 && whole % d == 0) {
                return d;
            }
        }
        return 1;
    }

    /** The k-th number whose bit is set, NONE if there are not so many. */
    private static int bitAt(int bits, int k) {
        int left = k;
        for (int i = 0; i < MOST_THINGS; i++) {
            if ((bits >> i & 1) == 1) {
                if (left == 0) {
                    return i;
                }
                left--;
            }
        }
        return NONE;
    }

    private static int firstBit(int bits) {
        return bits == 0 ? NONE : Integer.numberOfTrailingZeros(bits);
    }

    /** The bytes that were fed and that no text has used yet. */
    private static final class Tape {
        final byte[] bytes = new byte[MOST_TAPE];
        int length = 0;

        void append(int number) {
            for (int shift = 24; shift >= 0; shift -= 8) {
                if (length >= 0 && length < MOST_TAPE) {
                    bytes[length] = (byte) (number >>> shift);
                    length++;
                }
            }
        }

        int at(int i) {
            return i >= 0 && i < length && i < MOST_TAPE ? bytes[i] & 255 : NONE;
        }
    }

    /**
     * The tokens of the tape, one of them looked at. The first fault ends the reading: from then on there is
     * only the end, so whoever reads need not look for faults behind each token.
     */
    private static final class Text {
        final Tape tape;
        final int[] kinds = new int[MOST_TAPE + 1];
        final int[] starts = new int[MOST_TAPE + 1];
        // The letters of a name, the number of a plain word, a number.
        final long[] values = new long[MOST_TAPE + 1];
        int size = 0;
        int index = 0;
        int kind = END;
        int start = 0;
        long value = 0;
        int fault = 0;
        int faultPlace = 0;

        Text(Tape tape) {
            this.tape = tape;
        }

        /** Tells the tokens apart, up to the end or the first that is none, and looks at the first. */
        void open(int most) {
            int place = 0;
            boolean more = true;
            size = 0;
            while (more && size < kinds.length) {
                place = behindBlanks(place);
                starts[size] = Math.min(place, tape.length);
                kinds[size] = END;
                if (tape.length > most && place >= most) {
                    starts[size] = most;
                    kinds[size] = BAD;
                } else if (place < tape.length) {
                    place = readToken(place);
                }
                more = kinds[size] != END && kinds[size] != BAD;
                size++;
            }
            fault = 0;
            faultPlace = 0;
            index = NONE;
            step();
        }

        private int behindBlanks(int from) {
            int place = from;
            while (place < tape.length && (tape.at(place) == ' ' || tape.at(place) == '\n')) {
                place++;
            }
            return place;
        }

        /** Puts down the token that begins here: where it ends. */
        private int readToken(int from) {
            int sign = tape.at(from);
            if (isLetter(sign) || isDigit(sign)) {
                return readRun(from);
            }
            boolean known = sign == ';' || sign == '<' || sign == '=' || sign == '>' || sign == '(' || sign == ')';
            kinds[size] = known ? sign : BAD;
            return from + 1;
        }

        private int readRun(int from) {
            int place = from;
            int letters = 0;
            long key = 0;
            int number = 0;
            while (place < tape.length && (isLetter(tape.at(place)) || isDigit(tape.at(place)))) {
                int sign = tape.at(place);
                if (isLetter(sign)) {
                    letters++;
                    key = (key << LETTER_BITS) + (sign - 'a' + 1);
                } else {
                    number = number * 10 + (sign - '0');
                }
                place++;
            }
            int length = place - from;
            if (letters == length && length <= WORD_LETTERS) {
                int word = wordNumber(from, length);
                kinds[size] = word == NONE ? NAME : PLAIN;
                values[size] = word == NONE ? key : word;
            } else if (letters == 0 && length <= NUMBER_DIGITS) {
                kinds[size] = NUMBER;
                values[size] = number;
            } else {
                kinds[size] = BAD;
            }
            return place;
        }

        private int wordNumber(int from, int length) {
            int found = wordIn(CITY_WORDS, from, length);
            if (found != NONE) {
                return found;
            }
            found = wordIn(BOOK_WORDS, from, length);
            if (found != NONE) {
                return GOES + found;
            }
            found = wordIn(SENTENCE_WORDS, from, length);
            return found == NONE ? NONE : OR + found;
        }

        private int wordIn(String words, int from, int length) {
            for (int w = 0; (w + 1) * WORD_ROOM <= words.length(); w++) {
                if (isSpelled(words, w * WORD_ROOM, from, length)) {
                    return w;
                }
            }
            return NONE;
        }

        private boolean isSpelled(String words, int first, int from, int length) {
            if (first < 0 || first + length >= words.length() || words.charAt(first + length) != ' ') {
                return false;
            }
            for (int i = 0; i < length; i++) {
                if (words.charAt(first + i) != tape.at(from + i)) {
                    return false;
                }
            }
            return true;
        }

        private static boolean isLetter(int sign) {
            return sign >= 'a' && sign <= 'z';
        }

        private static boolean isDigit(int sign) {
            return sign >= '0' && sign <= '9';
        }

        void step() {
            if (fault != 0 || index + 1 >= size) {
                return;
            }
            index++;
            kind = kinds[index];
            start = starts[index];
            value = values[index];
        }

        void fail(int faultKind) {
            if (fault == 0) {
                fault = faultKind;
                faultPlace = start;
            }
            kind = END;
        }

        boolean isWord(int which) {
            return kind == PLAIN && value == which;
        }

        /** The word here that is no name, NONE for all else. */
        int plainWord() {
            return kind == PLAIN ? (int) value : NONE;
        }

        void takeEnd() {
            if (kind != END) {
                fail(FAULT_TOKEN);
            }
        }

        void takeSign(int sign) {
            if (kind == sign) {
                step();
            } else {
                fail(FAULT_TOKEN);
            }
        }

        int takeNumber(int least, int greatest) {
            if (kind != NUMBER) {
                fail(FAULT_TOKEN);
                return NONE;
            }
            int taken = (int) value;
            if (taken < least || taken > greatest) {
                fail(FAULT_NUMBER);
                return NONE;
            }
            step();
            return taken;
        }
    }

    /** What a text told of a city: it never changes once it has been read. */
    private static final class City {
        // How many there are of the four sorts, then 'fine', 'mite', 'wage', 'fast'.
        final int[] counts = {0, 0, 0, 0, 3, 1, 2, 5};
        final long[] names = new long[SORTS * SORT_ROOM];
        final int[] marks = new int[MOST_THINGS];
        final int[] thingPlace = new int[MOST_THINGS];
        final int[] personPlace = new int[MOST_PERSONS];
        final int[] coins = new int[MOST_PERSONS];
        final int[] knows = new int[MOST_PERSONS];
        int foreigners = 0;
        int settled = 0;

        boolean has(int sort, int number) {
            return number >= 0 && sort >= 0 && sort < SORTS && number < counts[sort];
        }

        boolean hasMarks(int saying) {
            return (saying & -(1 << counts[MARK])) == 0;
        }

        boolean isForeign(int p) {
            return (foreigners >> p & 1) == 1;
        }

        long nameOf(int sort, int number) {
            return has(sort, number) && number < SORT_ROOM ? names[sort * SORT_ROOM + number] : 0;
        }

        /** Where a name stands in the row of names, NONE if it was not told. */
        private int find(long key) {
            for (int sort = 0; sort < SORTS; sort++) {
                for (int i = 0; i < counts[sort] && i < SORT_ROOM; i++) {
                    if (names[sort * SORT_ROOM + i] == key) {
                        return sort * SORT_ROOM + i;
                    }
                }
            }
            return NONE;
        }

        /** The number of the name that stands here; NONE, and a fault, if it is none of that sort. */
        int toldHere(Text text, int sort) {
            if (text.kind != NAME) {
                text.fail(FAULT_TOKEN);
                return NONE;
            }
            int found = find(text.value);
            if (found == NONE || found / SORT_ROOM != sort) {
                text.fail(FAULT_NAME);
                return NONE;
            }
            return found % SORT_ROOM;
        }

        int read(Text text) {
            int lines = 0;
            for (int i = 0; i < MOST_TAPE && text.kind != END; i++) {
                readLine(text);
                text.takeSign(';');
                lines++;
            }
            return lines;
        }

        private void readLine(Text text) {
            int word = text.plainWord();
            switch (word) {
                case PLACE:
                case MARK:
                case THING:
                case PERSON:
                    readNew(text, word);
                    break;
                case IS:
                    text.step();
                    readPair(text, THING, marks);
                    break;
                case KNOWS:
                    text.step();
                    readPair(text, PERSON, knows);
                    break;
                case FINE:
                case MITE:
                case WAGE:
                case FAST:
                    readSetting(text, word);
                    break;
                default:
                    text.fail(FAULT_TOKEN);
                    break;
            }
        }

        private void readNew(Text text, int sort) {
            int number = counts[sort];
            if (number >= MOST_OF_SORT[sort]) {
                text.fail(FAULT_MANY);
                return;
            }
            text.step();
            if (text.kind != NAME) {
                text.fail(FAULT_TOKEN);
                return;
            }
            if (find(text.value) != NONE) {
                text.fail(FAULT_NAME);
                return;
            }
            names[sort * SORT_ROOM + number] = text.value;
            counts[sort] = number + 1;
            text.step();
            if (sort == THING) {
                thingPlace[number] = toldHere(text, PLACE);
                text.step();
            } else if (sort == PERSON) {
                readPerson(text, number);
            }
        }

        private void readPerson(Text text, int p) {
            personPlace[p] = toldHere(text, PLACE);
            text.step();
            coins[p] = text.takeNumber(0, MOST_COINS);
            if (text.isWord(FOREIGN)) {
                foreigners |= 1 << p;
                text.step();
            }
        }

        private void readPair(Text text, int sort, int[] row) {
            int owner = toldHere(text, sort);
            text.step();
            int mark = toldHere(text, MARK);
            if (owner == NONE || mark == NONE || owner >= row.length) {
                return;
            }
            if ((row[owner] >> mark & 1) == 1) {
                text.fail(FAULT_NAME);
                return;
            }
            row[owner] |= 1 << mark;
            text.step();
        }

        private void readSetting(Text text, int setting) {
            if ((settled >> setting & 1) == 1) {
                text.fail(FAULT_NAME);
                return;
            }
            settled |= 1 << setting;
            text.step();
            counts[setting] = text.takeNumber(LEAST_SETTING[setting - FINE], MOST_SETTING[setting - FINE]);
        }
    }

    /** All that is so in a city on one day, and the acts that change it. */
    private static final class Scene {
        City city;
        final int[] thingPlace = new int[MOST_THINGS];
        final int[] carrier = new int[MOST_THINGS];
        final int[] named = new int[MOST_THINGS];
        final int[] personPlace = new int[MOST_PERSONS];
        final int[] coins = new int[MOST_PERSONS];
        final int[] knows = new int[MOST_PERSONS];
        int day = 0;
        int guesses = 0;
        int fines = 0;

        Scene(City city) {
            this.city = city;
        }

        void begin(City fresh) {
            city = fresh;
            System.arraycopy(fresh.thingPlace, 0, thingPlace, 0, MOST_THINGS);
            System.arraycopy(fresh.personPlace, 0, personPlace, 0, MOST_PERSONS);
            System.arraycopy(fresh.coins, 0, coins, 0, MOST_PERSONS);
            System.arraycopy(fresh.knows, 0, knows, 0, MOST_PERSONS);
            for (int t = 0; t < MOST_THINGS; t++) {
                carrier[t] = NONE;
                named[t] = 0;
            }
            day = 0;
            guesses = 0;
            fines = 0;
        }

        void copyFrom(Scene other) {
            city = other.city;
            System.arraycopy(other.thingPlace, 0, thingPlace, 0, MOST_THINGS);
            System.arraycopy(other.carrier, 0, carrier, 0, MOST_THINGS);
            System.arraycopy(other.named, 0, named, 0, MOST_THINGS);
            System.arraycopy(other.personPlace, 0, personPlace, 0, MOST_PERSONS);
            System.arraycopy(other.coins, 0, coins, 0, MOST_PERSONS);
            System.arraycopy(other.knows, 0, knows, 0, MOST_PERSONS);
            day = other.day;
            guesses = other.guesses;
            fines = other.fines;
        }

        boolean has(int sort, int number) {
            return city.has(sort, number);
        }

        boolean isFast() {
            return day % WEEK == city.counts[FAST];
        }

        boolean isLying(int t) {
            return carrier[t] == NONE;
        }

        int placeOf(int t) {
            int who = carrier[t];
            return who >= 0 && who < MOST_PERSONS ? personPlace[who] : thingPlace[t];
        }

        int lyingAt(int l) {
            int bits = 0;
            for (int t = 0; t < city.counts[THING] && t < MOST_THINGS; t++) {
                if (carrier[t] == NONE && thingPlace[t] == l) {
                    bits |= 1 << t;
                }
            }
            return bits;
        }

        int carriedBy(int p) {
            int bits = 0;
            for (int t = 0; t < city.counts[THING] && t < MOST_THINGS; t++) {
                if (carrier[t] == p) {
                    bits |= 1 << t;
                }
            }
            return bits;
        }

        int allCarried() {
            int bits = 0;
            for (int t = 0; t < city.counts[THING] && t < MOST_THINGS; t++) {
                if (carrier[t] != NONE) {
                    bits |= 1 << t;
                }
            }
            return bits;
        }

        int allCoins() {
            int sum = 0;
            for (int p = 0; p < city.counts[PERSON] && p < MOST_PERSONS; p++) {
                sum += coins[p];
            }
            return sum;
        }

        boolean isFitting(int t, int known, int saying) {
            return (saying & known & ~city.marks[t]) == 0;
        }

        /** Which of these things fit a saying for one who knows these marks. */
        int fitting(int among, int known, int saying) {
            int bits = 0;
            for (int t = 0; t < MOST_THINGS && among >> t != 0; t++) {
                if ((among >> t & 1) == 1 && isFitting(t, known, saying)) {
                    bits |= 1 << t;
                }
            }
            return bits;
        }

        private boolean areTogether(int p, int q) {
            return p != q && personPlace[p] == personPlace[q];
        }

        private boolean liesBefore(int p, int t) {
            return carrier[t] == NONE && thingPlace[t] == personPlace[p];
        }

        int walk(int p, int l) {
            if (personPlace[p] == l) {
                return 1;
            }
            personPlace[p] = l;
            return 0;
        }

        int request(int p, int q, int saying) {
            if (!areTogether(p, q)) {
                return 1;
            }
            int fit = fitting(lyingAt(personPlace[q]), knows[q], saying);
            int first = firstBit(fit);
            if (first < 0 || first >= MOST_THINGS) {
                return 2;
            }
            carrier[first] = p;
            if (Integer.bitCount(fit) > 1) {
                guesses++;
            }
            return 0;
        }

        int callByName(int p, int t) {
            if (!liesBefore(p, t)) {
                return 1;
            }
            if (isFast() && !city.isForeign(p)) {
                int fine = city.counts[FINE];
                if (coins[p] < fine) {
                    return 2;
                }
                coins[p] -= fine;
                fines++;
            }
            carrier[t] = p;
            named[t]++;
            return 0;
        }

        int pointAt(int p, int t) {
            if (!liesBefore(p, t)) {
                return 1;
            }
            if (isFast()) {
                int mite = city.counts[MITE];
                if (coins[p] < mite) {
                    return 2;
                }
                coins[p] -= mite;
            }
            carrier[t] = p;
            return 0;
        }

        int drop(int p, int t) {
            if (carrier[t] != p) {
                return 1;
            }
            carrier[t] = NONE;
            thingPlace[t] = personPlace[p];
            return 0;
        }

        int study(int p, int q) {
            if (!areTogether(p, q)) {
                return 1;
            }
            int unknown = knows[q] & ~knows[p];
            if (unknown == 0) {
                return 2;
            }
            knows[p] |= Integer.lowestOneBit(unknown);
            return 0;
        }

        int daysLeft() {
            return LAST_DAY - day;
        }

        int passDays(int n) {
            int went = 0;
            for (int i = 0; i < n && day < LAST_DAY; i++) {
                passDay();
                went++;
            }
            return went;
        }

        void passDay() {
            if (!isFast()) {
                for (int p = 0; p < city.counts[PERSON] && p < MOST_PERSONS; p++) {
                    coins[p] = Math.min(MOST_COINS, coins[p] + city.counts[WAGE]);
                }
            }
            day++;
        }
    }

    /** The scenes ahead of the latest acts; one row more than are kept, so that an act that fails costs none. */
    private static final class History {
        final Scene[] scenes = new Scene[MOST_UNDONE + 1];
        int first = 0;
        int size = 0;

        private int slot(int i) {
            return Math.floorMod(first + i, MOST_UNDONE + 1);
        }

        void clear() {
            size = 0;
        }

        void prepare(Scene scene) {
            int spare = slot(size);
            Scene kept = scenes[spare];
            if (kept == null) {
                kept = new Scene(scene.city);
                scenes[spare] = kept;
            }
            kept.copyFrom(scene);
        }

        /** What was prepared is kept, the oldest one lost if there are too many. */
        void keep() {
            if (size < MOST_UNDONE) {
                size++;
            } else {
                first = slot(1);
            }
        }

        int takeBack(Scene scene) {
            if (size == 0) {
                return NONE;
            }
            Scene kept = scenes[slot(size - 1)];
            if (kept == null) {
                return NONE;
            }
            scene.copyFrom(kept);
            size--;
            return size;
        }
    }

    /** What a saying does in the minds of those who hear it. */
    private static final class Minds {
        private Minds() {
        }

        static int leastSaying(Scene scene, int t, int q) {
            int known = scene.knows[q];
            int pool = scene.city.marks[t] & known;
            int lying = scene.lyingAt(scene.placeOf(t));
            int best = NONE;
            for (int saying = 0; saying <= pool; saying++) {
                if ((saying & ~pool) == 0 && isShorter(saying, best)
                        && scene.fitting(lying, known, saying) == 1 << t) {
                    best = saying;
                }
            }
            return best;
        }

        private static boolean isShorter(int saying, int best) {
            return best == NONE || Integer.bitCount(saying) < Integer.bitCount(best);
        }

        static int twinOf(Scene scene, int lying, int t, int known) {
            return firstBit(scene.fitting(lying & ~(1 << t), known, scene.city.marks[t]));
        }

        static int slips(Scene scene, int t, int q) {
            int lying = scene.lyingAt(scene.placeOf(t));
            int wrong = 0;
            for (int m = 0; m < MOST_MARKS; m++) {
                if ((scene.city.marks[t] >> m & 1) == 1
                        && firstBit(scene.fitting(lying, scene.knows[q], 1 << m)) != t) {
                    wrong++;
                }
            }
            return wrong;
        }

        static int leastCover(Scene scene, int place) {
            int lying = scene.lyingAt(place);
            int all = (1 << scene.city.counts[MARK]) - 1;
            // Who knows fewer marks has more twins, so if all marks are too few no search is due.
            if (hasTwins(scene, lying, all)) {
                return NONE;
            }
            int best = NONE;
            for (int known = 0; known <= all; known++) {
                if (isShorter(known, best) && !hasTwins(scene, lying, known)) {
                    best = known;
                }
            }
            return best;
        }

        private static boolean hasTwins(Scene scene, int lying, int known) {
            for (int t = 0; t < MOST_THINGS && lying >> t != 0; t++) {
                if ((lying >> t & 1) == 1 && twinOf(scene, lying, t, known) != NONE) {
                    return true;
                }
            }
            return false;
        }

        static int leastCant(Scene scene, int p, int q, int t, int u) {
            int lying = scene.lyingAt(scene.placeOf(t));
            int best = NONE;
            for (int saying = 0; saying < 1 << scene.city.counts[MARK]; saying++) {
                if (isShorter(saying, best)
                        && scene.fitting(lying, scene.knows[p], saying) == 1 << t
                        && scene.fitting(lying, scene.knows[q], saying) == 1 << u) {
                    best = saying;
                }
            }
            return best;
        }

        static int hoursOfNews(Scene scene, int p) {
            int all = (1 << scene.city.counts[PERSON]) - 1;
            int aware = 1 << p;
            for (int hour = 0; hour <= MOST_PERSONS; hour++) {
                if (aware == all) {
                    return hour;
                }
                aware |= toldBy(scene, aware);
            }
            return NONE;
        }

        private static int toldBy(Scene scene, int aware) {
            int spoken = 0;
            for (int p = 0; p < MOST_PERSONS; p++) {
                if ((aware >> p & 1) == 1) {
                    spoken |= hearersOf(scene, p);
                }
            }
            return spoken;
        }

        private static int hearersOf(Scene scene, int p) {
            int bits = 0;
            for (int q = 0; q < scene.city.counts[PERSON] && q < MOST_PERSONS; q++) {
                if ((scene.knows[p] & scene.knows[q]) != 0) {
                    bits |= 1 << q;
                }
            }
            return bits;
        }
    }

    /** What one mark means in a place, if those who say and those who hear reckon with one another. */
    private static final class Rest {
        final int[] saidBy = {NONE, NONE, NONE, NONE, NONE, NONE, NONE, NONE};
        final int[] owner = new int[MOST_MARKS];

        int settle(Scene scene, int l) {
            int lying = scene.lyingAt(l);
            for (int t = 0; t < MOST_THINGS; t++) {
                saidBy[t] = NONE;
            }
            for (int m = 0; m < MOST_MARKS; m++) {
                owner[m] = firstBit(havingMark(scene, lying, m));
            }
            int rounds = 0;
            boolean changes = true;
            while (changes && rounds < MOST_ROUNDS) {
                boolean saidElse = sayThings(scene, lying);
                boolean givenElse = giveMarks(scene, lying);
                changes = saidElse || givenElse;
                rounds++;
            }
            return rounds;
        }

        private static int havingMark(Scene scene, int lying, int m) {
            int bits = 0;
            for (int t = 0; t < MOST_THINGS; t++) {
                if ((lying >> t & 1) == 1 && (scene.city.marks[t] >> m & 1) == 1) {
                    bits |= 1 << t;
                }
            }
            return bits;
        }

        private boolean sayThings(Scene scene, int lying) {
            boolean changes = false;
            for (int t = 0; t < MOST_THINGS; t++) {
                if ((lying >> t & 1) == 1) {
                    int mark = leastOwning(scene.city.marks[t], t);
                    if (mark != saidBy[t]) {
                        saidBy[t] = mark;
                        changes = true;
                    }
                }
            }
            return changes;
        }

        private int leastOwning(int marks, int t) {
            for (int m = 0; m < MOST_MARKS; m++) {
                if ((marks >> m & 1) == 1 && owner[m] == t) {
                    return m;
                }
            }
            return NONE;
        }

        private boolean giveMarks(Scene scene, int lying) {
            boolean changes = false;
            for (int m = 0; m < MOST_MARKS; m++) {
                int having = havingMark(scene, lying, m);
                int next = firstSaid(having, m);
                if (next == NONE) {
                    next = firstSaid(having, NONE);
                }
                if (next == NONE) {
                    next = firstBit(having);
                }
                if (next != owner[m]) {
                    owner[m] = next;
                    changes = true;
                }
            }
            return changes;
        }

        private int firstSaid(int having, int mark) {
            for (int t = 0; t < MOST_THINGS; t++) {
                if ((having >> t & 1) == 1 && saidBy[t] == mark) {
                    return t;
                }
            }
            return NONE;
        }
    }

    /** What may have been said to one of whom it is known what did fit and what did not. */
    private static final class Clue {
        final int[] fitted = new int[MOST_THINGS];
        int sure = NONE;
        int next = NONE;

        /** How many sayings there are; NONE if the tape is not as told. */
        int hear(Tape tape, Scene scene) {
            if (!isTold(tape, scene)) {
                return NONE;
            }
            for (int t = 0; t < MOST_THINGS; t++) {
                fitted[t] = 0;
            }
            int known = scene.knows[tape.at(0)];
            int sayings = 0;
            int shared = -1;
            for (int saying = 0; saying < 1 << scene.city.counts[MARK]; saying++) {
                if (isJustSo(tape, scene, known, saying)) {
                    sayings++;
                    shared &= saying;
                    countFitting(scene, known, saying);
                }
            }
            if (sayings > 0) {
                sure = shared;
                next = mostTelling(scene, sayings);
            }
            return sayings;
        }

        private static boolean isTold(Tape tape, Scene scene) {
            int pairs = (tape.length - 1) / 2;
            if (tape.length % 2 == 0 || pairs < 1 || pairs > MOST_HEARD || !scene.has(PERSON, tape.at(0))) {
                return false;
            }
            for (int i = 1; i + 1 < tape.length; i += 2) {
                if (!scene.has(THING, tape.at(i)) || tape.at(i + 1) > 1) {
                    return false;
                }
            }
            return true;
        }

        private static boolean isJustSo(Tape tape, Scene scene, int known, int saying) {
            for (int i = 1; i + 1 < tape.length; i += 2) {
                if (scene.isFitting(tape.at(i), known, saying) != (tape.at(i + 1) == 1)) {
                    return false;
                }
            }
            return true;
        }

        private void countFitting(Scene scene, int known, int saying) {
            for (int t = 0; t < scene.city.counts[THING] && t < MOST_THINGS; t++) {
                if (scene.isFitting(t, known, saying)) {
                    fitted[t]++;
                }
            }
        }

        private int mostTelling(Scene scene, int sayings) {
            int best = NONE;
            int bestLeft = 0;
            for (int t = 0; t < scene.city.counts[THING] && t < MOST_THINGS; t++) {
                int left = Math.max(fitted[t], sayings - fitted[t]);
                if (best == NONE || left < bestLeft) {
                    best = t;
                    bestLeft = left;
                }
            }
            return best;
        }
    }

    /** Days on which draws say what persons do. */
    private static final class Dice {
        int x = 0;

        private int draw(int n) {
            x = x * 1103515245 + 12345;
            return n > 0 ? (x >>> 8) % n : 0;
        }

        int live(Scene scene, int n) {
            int went = 0;
            for (int i = 0; i < n && scene.daysLeft() > 0; i++) {
                for (int p = 0; p < scene.city.counts[PERSON]; p++) {
                    takeTurn(scene, p);
                }
                scene.passDay();
                went++;
            }
            return went;
        }

        private void takeTurn(Scene scene, int p) {
            switch (draw(6)) {
                case 0:
                    scene.walk(p, draw(scene.city.counts[PLACE]));
                    break;
                case 1:
                    if (scene.city.counts[THING] > 0) {
                        scene.callByName(p, draw(scene.city.counts[THING]));
                    }
                    break;
                case 2:
                    if (scene.city.counts[THING] > 0) {
                        scene.pointAt(p, draw(scene.city.counts[THING]));
                    }
                    break;
                case 3:
                    dropFirst(scene, p);
                    break;
                case 4:
                    scene.study(p, draw(scene.city.counts[PERSON]));
                    break;
                default:
                    break;
            }
        }

        private static void dropFirst(Scene scene, int p) {
            int first = firstBit(scene.carriedBy(p));
            if (first >= 0 && first < MOST_THINGS) {
                scene.drop(p, first);
            }
        }
    }

    /** A book, line by line, and what was told of the latest one that was judged or lived. */
    private static final class Book {
        final int[] verbs = new int[MOST_LINES];
        final int[] actors = new int[MOST_LINES];
        // A place, thing, person or number of days.
        final int[] objects = new int[MOST_LINES];
        final int[] sayings = new int[MOST_LINES];
        int lines = 0;
        // Why it was wrong, how many lines were not, the day and what was carried then.
        final int[] report = {NONE, NONE, NONE, NONE};

        void read(Text text, City city) {
            lines = 0;
            for (int i = 0; i <= MOST_LINES && text.kind != END; i++) {
                readLine(text, city);
                text.takeSign(';');
            }
        }

        private void readLine(Text text, City city) {
            boolean isDay = text.isWord(DAY);
            int actor = isDay ? NONE : city.toldHere(text, PERSON);
            if (!isDay && actor == NONE) {
                return;
            }
            if (lines < 0 || lines >= MOST_LINES) {
                text.fail(FAULT_MANY);
                return;
            }
            text.step();
            actors[lines] = actor;
            sayings[lines] = 0;
            if (isDay) {
                verbs[lines] = DAY;
                objects[lines] = text.takeNumber(1, MOST_DAYS);
            } else {
                readAct(text, city);
            }
            lines++;
        }

        private void readAct(Text text, City city) {
            int verb = text.plainWord();
            if (verb < GOES || verb > LEARNS) {
                text.fail(FAULT_TOKEN);
                return;
            }
            text.step();
            verbs[lines] = verb;
            objects[lines] = city.toldHere(text, sortBehind(verb));
            text.step();
            if (verb == ASKS) {
                sayings[lines] = readSaying(text, city);
            }
        }

        private static int sortBehind(int verb) {
            if (verb == GOES) {
                return PLACE;
            }
            return verb == ASKS || verb == LEARNS ? PERSON : THING;
        }

        private static int readSaying(Text text, City city) {
            int saying = 0;
            for (int i = 0; i <= MOST_MARKS && (i == 0 || text.kind == NAME); i++) {
                int mark = city.toldHere(text, MARK);
                if (mark != NONE && (saying >> mark & 1) == 1) {
                    text.fail(FAULT_NAME);
                } else if (mark != NONE) {
                    saying |= 1 << mark;
                    text.step();
                }
            }
            return saying;
        }

        /** Lives the book in a scene as far as it is not wrong: the line that is, or NONE. */
        int judge(Scene scene) {
            int why = 0;
            int line = 0;
            while (line < lines && line < MOST_LINES && why == 0) {
                why = liveLine(scene, line);
                if (why == 0) {
                    line++;
                }
            }
            report[0] = why;
            report[1] = line;
            report[2] = scene.day;
            report[3] = scene.allCarried();
            return why == 0 ? NONE : line;
        }

        private int liveLine(Scene scene, int line) {
            int p = actors[line];
            int object = objects[line];
            switch (verbs[line]) {
                case GOES:
                    return scene.walk(p, object);
                case ASKS:
                    return because(10, scene.request(p, object, sayings[line]));
                case NAMES:
                    return because(20, scene.callByName(p, object));
                case POINTS:
                    return because(30, scene.pointAt(p, object));
                case PUTS:
                    return because(40, scene.drop(p, object));
                case LEARNS:
                    return because(50, scene.study(p, object));
                default:
                    return liveDays(scene, object);
            }
        }

        private static int because(int tens, int whyNot) {
            return whyNot == 0 ? 0 : tens + whyNot;
        }

        private static int liveDays(Scene scene, int n) {
            if (scene.daysLeft() < n) {
                return 61;
            }
            scene.passDays(n);
            return 0;
        }

        int tell(int what) {
            return what >= 0 && what < report.length ? report[what] : NONE;
        }
    }

    /** A sentence in the order in which it is reckoned: what stands for things first, then what joins them. */
    private static final class Sentence {
        final int[] parts = new int[2 * MOST_ONES];
        final int[] objects = new int[2 * MOST_ONES];
        final int[] signs = new int[2 * MOST_ONES];
        final int[] stack = new int[2 * MOST_ONES];
        int size = 0;
        int ones = 0;

        void readCondition(Text text, City city, int depth) {
            readAll(text, city, depth);
            for (int i = 0; i < MOST_ONES && text.isWord(OR); i++) {
                text.step();
                readAll(text, city, depth);
                add(OR, 0, 0);
            }
        }

        private void readAll(Text text, City city, int depth) {
            readOne(text, city, depth);
            for (int i = 0; i < MOST_ONES && text.isWord(AND); i++) {
                text.step();
                readOne(text, city, depth);
                add(AND, 0, 0);
            }
        }

        private void readOne(Text text, City city, int depth) {
            int word = text.plainWord();
            boolean opens = text.kind == '(';
            if (!opens && (word < NOT || word > NUMBERED)) {
                text.fail(FAULT_TOKEN);
                return;
            }
            if (ones >= MOST_ONES || depth > MOST_WITHIN) {
                text.fail(FAULT_MANY);
                return;
            }
            ones++;
            text.step();
            if (opens) {
                readCondition(text, city, depth + 1);
                text.takeSign(')');
            } else if (word == NOT) {
                readOne(text, city, depth + 1);
                add(NOT, 0, 0);
            } else {
                readPlain(text, city, word);
            }
        }

        private void readPlain(Text text, City city, int word) {
            if (word == CARRIED || word == LONE) {
                add(word, 0, 0);
                return;
            }
            if (word == HAS || word == AT || word == WITH) {
                add(word, city.toldHere(text, sortBehind(word)), 0);
                text.step();
                return;
            }
            int sign = text.kind;
            if (sign != '<' && sign != '=' && sign != '>') {
                text.fail(FAULT_TOKEN);
                return;
            }
            text.step();
            add(word, text.takeNumber(0, MOST_NUMBER), sign);
        }

        private static int sortBehind(int word) {
            if (word == HAS) {
                return MARK;
            }
            return word == AT ? PLACE : PERSON;
        }

        private void add(int part, int object, int sign) {
            if (size >= 0 && size < parts.length) {
                parts[size] = part;
                objects[size] = object;
                signs[size] = sign;
                size++;
            }
        }

        /** The things of which it may be said, as bits. */
        int thingsIn(Scene scene) {
            int all = (1 << scene.city.counts[THING]) - 1;
            int top = 0;
            for (int i = 0; i < size && i < parts.length; i++) {
                int part = parts[i];
                if (part == NOT && top >= 1) {
                    stack[top - 1] = all & ~stack[top - 1];
                } else if (part == AND && top >= 2) {
                    top--;
                    stack[top - 1] &= stack[top];
                } else if (part == OR && top >= 2) {
                    top--;
                    stack[top - 1] |= stack[top];
                } else if (top < stack.length) {
                    stack[top] = thingsOfPart(scene, i);
                    top++;
                }
            }
            return stack[0];
        }

        private int thingsOfPart(Scene scene, int i) {
            int bits = 0;
            for (int t = 0; t < scene.city.counts[THING] && t < MOST_THINGS; t++) {
                if (holds(scene, i, t)) {
                    bits |= 1 << t;
                }
            }
            return bits;
        }

        private boolean holds(Scene scene, int i, int t) {
            int object = objects[i];
            switch (parts[i]) {
                case CARRIED:
                    return !scene.isLying(t);
                case LONE:
                    return scene.isLying(t) && Minds.twinOf(scene, scene.lyingAt(scene.placeOf(t)), t, -1) == NONE;
                case HAS:
                    return (scene.city.marks[t] >> object & 1) == 1;
                case AT:
                    return scene.placeOf(t) == object;
                case WITH:
                    return scene.carrier[t] == object;
                case MARKS:
                    return isSo(Integer.bitCount(scene.city.marks[t]), signs[i], object);
                case NAMED:
                    return isSo(scene.named[t], signs[i], object);
                default:
                    return isSo(t, signs[i], object);
            }
        }

        private static boolean isSo(int value, int sign, int object) {
            if (sign == '<') {
                return value < object;
            }
            return sign == '=' ? value == object : value > object;
        }
    }
}
