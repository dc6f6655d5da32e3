import java.util.ArrayList;
import java.util.List;

/** A checker of spelling and grammar; what it promises is told in ../shared/DOC.md. */
public final class SpellScribe {
    public static final int NONE = -1;
    public static final int NEVER = 1, JOINS_ONLY = 2, JOINABLE = 4;
    public static final int FREE = 0, AGREE = 1, APART = 2;
    public static final int WRONG = 0, BROKEN = 1, STYLE = 2;

    // A word is held as one number: a 1, and behind it three bits for each letter. So of two words
    // the lesser number is the shorter one's, or the one's that is ahead in the order of letters.
    private static final int EMPTY = 1;
    // What stands for a word of more than 10 letters, or for one that no rule makes.
    private static final int NO_WORD = 0;
    private static final int LETTER_BITS = 3, LETTER_MASK = 7, LETTERS = 8;
    private static final char ANY = ' ';

    private static final int MOST_LETTERS = 10, MOST_ADDED = 4, MOST_STRIPPED = 2;
    private static final int MOST_STEMS = 12, MOST_RULES = 8, MOST_STYLES = 8, MOST_ITEMS = 3;
    private static final int MOST_OWN = 10, MOST_BARRED = 10, MOST_CALLS = 512;
    // Of 8 rules, 6 for endings and 2 for beginnings make the most of a stem: (1 + 6 + 6 * 6) * (1 + 2).
    private static final int MOST_MADE = MOST_STEMS * 129;
    private static final int MOST_SUGGESTED = MOST_MADE + MOST_OWN;
    private static final int MOST_SIGNS = 100, MOST_WORDS = 50, MOST_SENTENCES = 101;
    private static final int MOST_CHANGES = 20, TIMES_TO_LEARN = 3;

    private static final int MOST_FLAGS = 63, MOST_KIND = 3, MOST_FORM = 1, MOST_IS = 7, MOST_FLAG = 5;
    private static final int KINDS = 4, READINGS = 8;
    // What is known of a made word: its readings by itself, then those at the end of a join, then this.
    private static final int JOIN_SHIFT = 8, READING_MASK = 255, MAY_BE_SUGGESTED = 1 << 16;

    private static final int MOST_COST = 4, COST_PUT_OR_LEFT = 2, COST_OTHER = 2, COST_NEAR = 1, COST_SWAP = 1;
    // Further apart than this in length, two words cost more than any suggestion may.
    private static final int REACH = MOST_COST / COST_PUT_OR_LEFT;
    private static final int FULL_REACH = MOST_SIGNS;
    private static final int FAR = 100000;

    private final Lexicon lexicon = new Lexicon();
    private final Suggester suggester = new Suggester();
    private final Grammar grammar = new Grammar();
    private final List<Style> styles = new ArrayList<Style>();
    private final WordBook ignored = new WordBook(MOST_CALLS);
    private final Text text = new Text();
    private final Text textBefore = new Text();
    private final History history = new History();
    private final Proof proof = new Proof();
    private Style draftedStyle = new Style();
    private int draft = EMPTY;
    private boolean isProofread;
    private int listedFor = NONE;

    public SpellScribe() {
    }

    // ---- drafts, stems, rules

    public int letter(char letter) throws IllegalArgumentException, IllegalStateException {
        if (!isLetter(letter)) {
            throw new IllegalArgumentException("a letter is one of a to h");
        }
        if (sizeOf(draft) >= MOST_LETTERS) {
            throw new IllegalStateException("10 letters are drafted");
        }
        draft = withLetter(draft, letter - 'a');
        return sizeOf(draft);
    }

    public int scrap() {
        return sizeOf(takeDraft());
    }

    public int stem(int flags, int kind, int form, int is) throws IllegalArgumentException, IllegalStateException {
        if (!isIn(flags, 0, MOST_FLAGS) || !isReading(kind, form) || !isIn(is, 0, MOST_IS)) {
            throw new IllegalArgumentException("flags, kind, form or is is out of range");
        }
        if (draft == EMPTY || lexicon.stemCount() >= MOST_STEMS) {
            throw new IllegalStateException("nothing is drafted, or there are 12 stems");
        }
        int number = lexicon.addStem(new Stem(takeDraft(), flags, kind, form, is));
        lexicon.remake();
        forgetAnswers();
        return number;
    }

    public int rule(int flag, boolean isEnd, int strip, char with, int kind, int form)
            throws IllegalArgumentException, IllegalStateException {
        boolean isFit = isIn(flag, 0, MOST_FLAG) && isIn(strip, 0, MOST_STRIPPED) && (with == ANY || isLetter(with));
        if (!isFit || !isIn(kind, NONE, MOST_KIND) || !isIn(form, NONE, MOST_FORM)) {
            throw new IllegalArgumentException("flag, strip, with, kind or form is out of range");
        }
        boolean doesNothing = draft == EMPTY && strip == 0;
        if (sizeOf(draft) > MOST_ADDED || doesNothing || lexicon.ruleCount() >= MOST_RULES) {
            throw new IllegalStateException("the draft is no addition, or there are 8 rules");
        }
        int border = with == ANY ? NONE : with - 'a';
        int number = lexicon.addRule(new Rule(flag, isEnd, strip, border, takeDraft(), kind, form));
        lexicon.remake();
        forgetAnswers();
        return number;
    }

    public int more(int rule, int flags)
            throws IndexOutOfBoundsException, IllegalArgumentException, IllegalStateException {
        Rule given = lexicon.ruleAt(rule);
        if (given == null) {
            throw new IndexOutOfBoundsException("there is no such rule");
        }
        if (!isIn(flags, 0, MOST_FLAGS)) {
            throw new IllegalArgumentException("flags is out of range");
        }
        if (!given.isEnd) {
            throw new IllegalStateException("the rule is not for endings");
        }
        int flagsBefore = given.moreFlags;
        given.moreFlags = flags;
        lexicon.remake();
        forgetAnswers();
        return flagsBefore;
    }

    public boolean sound(char one, char other) throws IllegalArgumentException {
        if (!isLetter(one) || !isLetter(other) || one == other) {
            throw new IllegalArgumentException("these are not two letters of a to h");
        }
        boolean isNew = suggester.addSound(one - 'a', other - 'a');
        forgetAnswers();
        return isNew;
    }

    // ---- own words

    public int own(int kind, int form) throws IllegalArgumentException, IllegalStateException {
        if (!isReading(kind, form)) {
            throw new IllegalArgumentException("kind or form is out of range");
        }
        if (draft == EMPTY || !lexicon.hasRoomForOwn(draft)) {
            throw new IllegalStateException("nothing is drafted, or there are 10 other own words");
        }
        lexicon.addOwn(takeDraft(), readingOf(kind, form));
        forgetAnswers();
        return lexicon.ownCount();
    }

    public int bar() throws IllegalStateException {
        if (draft == EMPTY || !lexicon.hasRoomForBarred(draft)) {
            throw new IllegalStateException("nothing is drafted, or 10 other words are barred");
        }
        lexicon.addBarred(takeDraft());
        forgetAnswers();
        return lexicon.barredCount();
    }

    public int ignore(int word) throws IndexOutOfBoundsException, IllegalStateException {
        if (!hasWord(word)) {
            throw new IndexOutOfBoundsException("there is no such word");
        }
        proofread();
        int spelled = text.wordNumbered(word);
        if (spelled == NO_WORD || proof.isSpelledRight(word) || lexicon.isBarred(spelled)) {
            throw new IllegalStateException("the word is right, has more than 10 letters, or is barred");
        }
        int times = ignored.valueOf(spelled) + 1;
        if (times < TIMES_TO_LEARN || !lexicon.hasRoomForOwn(spelled)) {
            ignored.store(spelled, times);
            return times;
        }
        ignored.drop(spelled);
        lexicon.addOwn(spelled, readingOf(0, 0));
        forgetAnswers();
        return 0;
    }

    // ---- grammar, styles

    public int tell(int first, int second, int what) throws IllegalArgumentException {
        if (!isIn(first, 0, MOST_KIND) || !isIn(second, 0, MOST_KIND) || !isIn(what, FREE, APART)) {
            throw new IllegalArgumentException("first, second or what is out of range");
        }
        forgetAnswers();
        return grammar.changeTold(first, second, what);
    }

    public int item(int kind) throws IllegalArgumentException, IllegalStateException {
        if (!isIn(kind, NONE, MOST_KIND)) {
            throw new IllegalArgumentException("kind is out of range");
        }
        if (draftedStyle.itemCount >= MOST_ITEMS || (kind == NONE && draft == EMPTY)) {
            throw new IllegalStateException("the style has 3 items, or nothing is drafted");
        }
        draftedStyle.addItem(kind == NONE ? takeDraft() : kind);
        return draftedStyle.itemCount;
    }

    public int style(int place) throws IllegalStateException, IndexOutOfBoundsException {
        if (draftedStyle.itemCount == 0 || draft == EMPTY || styles.size() >= MOST_STYLES) {
            throw new IllegalStateException("the style has no items, nothing is drafted, or there are 8 styles");
        }
        if (!isIn(place, 0, draftedStyle.itemCount - 1)) {
            throw new IndexOutOfBoundsException("there is no such item");
        }
        draftedStyle.setChange(place, takeDraft());
        styles.add(draftedStyle);
        draftedStyle = new Style();
        forgetAnswers();
        return styles.size() - 1;
    }

    // ---- the text

    public int put(int place, char sign)
            throws IndexOutOfBoundsException, IllegalArgumentException, IllegalStateException {
        if (!isIn(place, 0, text.size())) {
            throw new IndexOutOfBoundsException("there is no such place");
        }
        if (!isSign(sign)) {
            throw new IllegalArgumentException("this is no sign of a text");
        }
        if (text.size() >= MOST_SIGNS) {
            throw new IllegalStateException("the text has 100 signs");
        }
        textBefore.becomeLike(text);
        text.insertSign(place, sign);
        return checkEdit();
    }

    public int take(int place) throws IndexOutOfBoundsException {
        if (!isIn(place, 0, text.size() - 1)) {
            throw new IndexOutOfBoundsException("there is no such place");
        }
        textBefore.becomeLike(text);
        text.removeSign(place);
        return checkEdit();
    }

    public int correct() {
        history.begin(text);
        for (int changes = 0; changes < MOST_CHANGES; changes++) {
            proofread();
            if (!changeOnce()) {
                return changes;
            }
            if (history.holds(text)) {
                return NONE;
            }
            history.keep(text);
        }
        return MOST_CHANGES;
    }

    public int length() {
        return text.size();
    }

    public char signAt(int place) throws IndexOutOfBoundsException {
        if (!isIn(place, 0, text.size() - 1)) {
            throw new IndexOutOfBoundsException("there is no such place");
        }
        return text.signOn(place);
    }

    // ---- words of the text

    public int words() {
        return text.wordCount();
    }

    public int wordAt(int word) throws IndexOutOfBoundsException {
        if (!hasWord(word)) {
            throw new IndexOutOfBoundsException("there is no such word");
        }
        return text.wordStart(word);
    }

    public boolean isRight(int word) throws IndexOutOfBoundsException {
        if (!hasWord(word)) {
            throw new IndexOutOfBoundsException("there is no such word");
        }
        proofread();
        return proof.isSpelledRight(word);
    }

    public int readings(int word) throws IndexOutOfBoundsException {
        if (!hasWord(word)) {
            throw new IndexOutOfBoundsException("there is no such word");
        }
        proofread();
        return proof.readingSet(word);
    }

    public int reading(int word) throws IndexOutOfBoundsException {
        if (!hasWord(word)) {
            throw new IndexOutOfBoundsException("there is no such word");
        }
        proofread();
        return proof.chosenReading(word);
    }

    public int split(int word) throws IndexOutOfBoundsException {
        if (!hasWord(word)) {
            throw new IndexOutOfBoundsException("there is no such word");
        }
        int size = text.wordSize(word);
        for (int ahead = 1; ahead < size; ahead++) {
            if (isRightPart(word, 0, ahead) && isRightPart(word, ahead, size)) {
                return ahead;
            }
        }
        return NONE;
    }

    // ---- mistakes

    public int mistakes() {
        proofread();
        return proof.mistakeCount();
    }

    public int mistakeKind(int mistake) throws IndexOutOfBoundsException {
        proofread();
        if (!isIn(mistake, 0, proof.mistakeCount() - 1)) {
            throw new IndexOutOfBoundsException("there are not so many mistakes");
        }
        return proof.kindOfMistake(mistake);
    }

    public int mistakeAt(int mistake) throws IndexOutOfBoundsException {
        proofread();
        if (!isIn(mistake, 0, proof.mistakeCount() - 1)) {
            throw new IndexOutOfBoundsException("there are not so many mistakes");
        }
        return proof.wordOfMistake(mistake);
    }

    // ---- suggestions

    public int suggestions(int word) throws IndexOutOfBoundsException {
        if (!hasWord(word)) {
            throw new IndexOutOfBoundsException("there is no such word");
        }
        listSuggestions(word);
        return suggester.count();
    }

    public int suggestionsByAll(int word) throws IndexOutOfBoundsException {
        if (!hasWord(word)) {
            throw new IndexOutOfBoundsException("there is no such word");
        }
        suggester.list(text, word, lexicon.suggestable(), FULL_REACH);
        listedFor = NONE;
        return suggester.count();
    }

    public int cost(int word, int suggestion) throws IndexOutOfBoundsException {
        if (!hasSuggestion(word, suggestion)) {
            throw new IndexOutOfBoundsException("there is no such word or suggestion");
        }
        return suggester.costOfListed(suggestion);
    }

    public char suggested(int word, int suggestion, int place) throws IndexOutOfBoundsException {
        if (place < 0 || !hasSuggestion(word, suggestion)) {
            throw new IndexOutOfBoundsException("there is no such word, suggestion or place");
        }
        int spelled = suggester.listedWord(suggestion);
        return place < sizeOf(spelled) ? (char) ('a' + letterOf(spelled, place)) : ' ';
    }

    public int made() {
        return lexicon.madeCount();
    }

    // ---- what several calls use

    private int takeDraft() {
        int word = draft;
        draft = EMPTY;
        return word;
    }

    private void forgetAnswers() {
        isProofread = false;
        listedFor = NONE;
    }

    private int checkEdit() {
        text.findWords();
        forgetAnswers();
        return text.wordsCheckedSince(textBefore);
    }

    private void proofread() {
        if (isProofread) {
            return;
        }
        for (int word = 0; word < text.wordCount(); word++) {
            proof.setReadings(word, lexicon.readingsOf(text.wordNumbered(word)));
        }
        proof.read(text, grammar, styles);
        isProofread = true;
    }

    private void listSuggestions(int word) {
        if (listedFor != word) {
            suggester.list(text, word, lexicon.suggestable(), REACH);
            listedFor = word;
        }
    }

    private boolean hasWord(int word) {
        return isIn(word, 0, text.wordCount() - 1);
    }

    private boolean hasSuggestion(int word, int suggestion) {
        if (!hasWord(word)) {
            return false;
        }
        listSuggestions(word);
        return isIn(suggestion, 0, suggester.count() - 1);
    }

    private boolean isRightPart(int word, int from, int to) {
        return lexicon.readingsOf(text.partOfWord(word, from, to)) != 0;
    }

    /** Makes the change that comes next in the proofread text; tells whether there was one with room. */
    private boolean changeOnce() {
        for (int word = 0; word < text.wordCount(); word++) {
            if (!proof.isSpelledRight(word)) {
                listSuggestions(word);
                if (suggester.count() > 0) {
                    return changeWord(word, suggester.listedWord(0));
                }
            }
        }
        for (int word = 0; word < text.wordCount(); word++) {
            Style taken = styleNumbered(styles, proof.takenStyle(word));
            if (taken != null) {
                return changeWord(word + taken.changedItem, taken.change);
            }
        }
        return false;
    }

    private boolean changeWord(int word, int spelled) {
        if (text.size() - text.wordSize(word) + sizeOf(spelled) > MOST_SIGNS) {
            return false;
        }
        text.replaceWord(word, spelled);
        text.findWords();
        forgetAnswers();
        return true;
    }

    private static Style styleNumbered(List<Style> styles, int number) {
        return isIn(number, 0, styles.size() - 1) ? styles.get(number) : null;
    }

    private static boolean isIn(int number, int least, int most) {
        return number >= least && number <= most;
    }

    private static boolean isLetter(int sign) {
        return isIn(sign, 'a', 'h');
    }

    private static boolean isSign(char sign) {
        return isLetter(sign) || sign == ' ' || sign == '.' || sign == '<' || sign == '>';
    }

    private static boolean isReading(int kind, int form) {
        return isIn(kind, 0, MOST_KIND) && isIn(form, 0, MOST_FORM);
    }

    private static int readingOf(int kind, int form) {
        return 2 * kind + form;
    }

    // ---- words as numbers

    private static int sizeOf(int word) {
        int size = 0;
        for (int rest = word; rest >= LETTERS && size < MOST_LETTERS; rest >>= LETTER_BITS) {
            size++;
        }
        return size;
    }

    private static int withLetter(int word, int letter) {
        return (word << LETTER_BITS) | letter;
    }

    /** Returns 0 for an a, to 7 for an h; the place is one of the word. */
    private static int letterOf(int word, int place) {
        return (word >> (LETTER_BITS * (sizeOf(word) - 1 - place))) & LETTER_MASK;
    }

    private static int partOf(int word, int from, int to) {
        int mark = 1 << (LETTER_BITS * (to - from));
        int cut = word >> (LETTER_BITS * (sizeOf(word) - to));
        return mark | (cut & (mark - 1));
    }

    private static int joined(int first, int second) {
        int mark = 1 << (LETTER_BITS * sizeOf(second));
        return (first * mark) | (second & (mark - 1));
    }

    /** A row of numbers that can be asked and written at any place: outside of it there is 0. */
    private static final class Row {
        private final int[] cells;

        Row(int size) {
            cells = new int[size > 0 ? size : 0];
        }

        int get(int place) {
            return place >= 0 && place < cells.length ? cells[place] : 0;
        }

        void set(int place, int value) {
            if (place >= 0 && place < cells.length) {
                cells[place] = value;
            }
        }

        void insert(int place, int value, int used) {
            if (place >= 0 && place <= used && used < cells.length) {
                System.arraycopy(cells, place, cells, place + 1, used - place);
                cells[place] = value;
            }
        }

        void remove(int place, int used) {
            if (place >= 0 && place < used && used <= cells.length) {
                System.arraycopy(cells, place + 1, cells, place, used - place - 1);
            }
        }
    }

    /** Unlike words in their order, each with a number that is not 0. */
    private static final class WordBook {
        // Each step halves what is left, and no book has 2 to the power of this many words.
        private static final int SEARCH_STEPS = 16;

        private final Row spelled;
        private final Row values;
        private final int most;
        private int count;

        WordBook(int most) {
            this.most = most;
            spelled = new Row(most);
            values = new Row(most);
        }

        int count() {
            return count;
        }

        int wordOn(int place) {
            return spelled.get(place);
        }

        int valueOn(int place) {
            return values.get(place);
        }

        /** Returns 0 if the word is not in the book. */
        int valueOf(int word) {
            int place = placeOf(word);
            return place < count && spelled.get(place) == word ? values.get(place) : 0;
        }

        void store(int word, int value) {
            int place = placeOf(word);
            if (place < count && spelled.get(place) == word) {
                values.set(place, value);
            } else if (count < most) {
                spelled.insert(place, word, count);
                values.insert(place, value, count);
                count++;
            }
        }

        void drop(int word) {
            int place = placeOf(word);
            if (place < count && spelled.get(place) == word) {
                spelled.remove(place, count);
                values.remove(place, count);
                count--;
            }
        }

        void clear() {
            count = 0;
        }

        private int placeOf(int word) {
            int low = 0;
            int high = count;
            for (int step = 0; step < SEARCH_STEPS && low < high; step++) {
                int middle = (low + high) / 2;
                if (spelled.get(middle) < word) {
                    low = middle + 1;
                } else {
                    high = middle;
                }
            }
            return low;
        }
    }

    private static final class Stem {
        private final int word;
        private final int flags;
        private final int kind;
        private final int form;
        private final int is;

        Stem(int word, int flags, int kind, int form, int is) {
            this.word = word;
            this.flags = flags;
            this.kind = kind;
            this.form = form;
            this.is = is;
        }

        /** What is known of a word that is made of this stem, with one reading. */
        int knownWith(int kind, int form) {
            int reading = 1 << readingOf(kind, form);
            boolean isOnlyJoined = (is & JOINS_ONLY) != 0;
            int known = isOnlyJoined ? 0 : reading;
            if (isOnlyJoined || (is & JOINABLE) != 0) {
                known |= reading << JOIN_SHIFT;
            }
            if (!isOnlyJoined && (is & NEVER) == 0) {
                known |= MAY_BE_SUGGESTED;
            }
            return known;
        }
    }

    private static final class Rule {
        private final int flag;
        private final boolean isEnd;
        private final int strip;
        private final int border;
        private final int added;
        private final int kind;
        private final int form;
        private int moreFlags;

        Rule(int flag, boolean isEnd, int strip, int border, int added, int kind, int form) {
            this.flag = flag;
            this.isEnd = isEnd;
            this.strip = strip;
            this.border = border;
            this.added = added;
            this.kind = kind;
            this.form = form;
        }

        boolean isAmong(int flags, boolean ofEndings) {
            return isEnd == ofEndings && ((flags >> flag) & 1) != 0;
        }

        /** Returns what comes of a word, NO_WORD if the rule cannot be used on it. */
        int usedOn(int word) {
            int size = sizeOf(word);
            if (size <= strip || size - strip + sizeOf(added) > MOST_LETTERS) {
                return NO_WORD;
            }
            if (border != NONE && border != letterOf(word, isEnd ? size - 1 : 0)) {
                return NO_WORD;
            }
            return isEnd ? joined(partOf(word, 0, size - strip), added) : joined(added, partOf(word, strip, size));
        }

        int kindAfter(int kindBefore) {
            return kind == NONE ? kindBefore : kind;
        }

        int formAfter(int formBefore) {
            return form == NONE ? formBefore : form;
        }
    }

    /** Which words there are: stems with rules, own words, barred ones. */
    private static final class Lexicon {
        private final List<Stem> stems = new ArrayList<Stem>();
        private final List<Rule> rules = new ArrayList<Rule>();
        private final WordBook madeWords = new WordBook(MOST_MADE);
        private final WordBook ownWords = new WordBook(MOST_OWN);
        private final WordBook barred = new WordBook(MOST_BARRED);
        private final WordBook suggestable = new WordBook(MOST_SUGGESTED);

        int stemCount() {
            return stems.size();
        }

        int addStem(Stem stem) {
            stems.add(stem);
            return stems.size() - 1;
        }

        int ruleCount() {
            return rules.size();
        }

        int addRule(Rule rule) {
            rules.add(rule);
            return rules.size() - 1;
        }

        Rule ruleAt(int number) {
            return isIn(number, 0, rules.size() - 1) ? rules.get(number) : null;
        }

        int madeCount() {
            return madeWords.count();
        }

        int ownCount() {
            return ownWords.count();
        }

        int barredCount() {
            return barred.count();
        }

        boolean isBarred(int word) {
            return barred.valueOf(word) != 0;
        }

        boolean hasRoomForOwn(int word) {
            return ownWords.valueOf(word) != 0 || ownWords.count() < MOST_OWN;
        }

        boolean hasRoomForBarred(int word) {
            return barred.valueOf(word) != 0 || barred.count() < MOST_BARRED;
        }

        void addOwn(int word, int reading) {
            barred.drop(word);
            ownWords.store(word, 1 << reading);
            listSuggestable();
        }

        void addBarred(int word) {
            ownWords.drop(word);
            barred.store(word, 1);
            listSuggestable();
        }

        WordBook suggestable() {
            return suggestable;
        }

        /** Makes all made words anew, after a change of stems or rules. */
        void remake() {
            madeWords.clear();
            for (int i = 0; i < stems.size(); i++) {
                makeOf(stems.get(i));
            }
            listSuggestable();
        }

        private void makeOf(Stem stem) {
            makeWithBeginnings(stem, stem.word, stem.kind, stem.form);
            for (int i = 0; i < rules.size(); i++) {
                Rule first = rules.get(i);
                int word = first.isAmong(stem.flags, true) ? first.usedOn(stem.word) : NO_WORD;
                if (word != NO_WORD) {
                    int kind = first.kindAfter(stem.kind);
                    int form = first.formAfter(stem.form);
                    makeWithBeginnings(stem, word, kind, form);
                    makeSecondEndings(stem, first.moreFlags, word, kind, form);
                }
            }
        }

        private void makeSecondEndings(Stem stem, int flags, int word, int kind, int form) {
            for (int i = 0; i < rules.size(); i++) {
                Rule second = rules.get(i);
                int longer = second.isAmong(flags, true) ? second.usedOn(word) : NO_WORD;
                if (longer != NO_WORD) {
                    makeWithBeginnings(stem, longer, second.kindAfter(kind), second.formAfter(form));
                }
            }
        }

        private void makeWithBeginnings(Stem stem, int word, int kind, int form) {
            madeWords.store(word, madeWords.valueOf(word) | stem.knownWith(kind, form));
            for (int i = 0; i < rules.size(); i++) {
                Rule rule = rules.get(i);
                int longer = rule.isAmong(stem.flags, false) ? rule.usedOn(word) : NO_WORD;
                if (longer != NO_WORD) {
                    int known = stem.knownWith(rule.kindAfter(kind), rule.formAfter(form));
                    madeWords.store(longer, madeWords.valueOf(longer) | known);
                }
            }
        }

        private void listSuggestable() {
            suggestable.clear();
            for (int i = 0; i < madeWords.count(); i++) {
                int word = madeWords.wordOn(i);
                if ((madeWords.valueOn(i) & MAY_BE_SUGGESTED) != 0 && !isBarred(word)) {
                    suggestable.store(word, 1);
                }
            }
            for (int i = 0; i < ownWords.count(); i++) {
                suggestable.store(ownWords.wordOn(i), 1);
            }
        }

        /** Returns the set of readings of a word; it is empty only if the word is not right. */
        int readingsOf(int word) {
            if (word == NO_WORD || isBarred(word)) {
                return 0;
            }
            return ownWords.valueOf(word) | (madeWords.valueOf(word) & READING_MASK) | readingsAsJoin(word);
        }

        private int readingsAsJoin(int word) {
            int size = sizeOf(word);
            int readings = 0;
            for (int border = 2; border <= size - 2; border++) {
                if (canBeBorder(word, border) && readingsInJoin(word, 0, border) != 0) {
                    readings |= readingsInJoin(word, border, size);
                    for (int next = border + 2; next <= size - 2; next++) {
                        if (canBeBorder(word, next) && readingsInJoin(word, border, next) != 0) {
                            readings |= readingsInJoin(word, next, size);
                        }
                    }
                }
            }
            return readings;
        }

        private boolean canBeBorder(int word, int border) {
            return letterOf(word, border - 1) != letterOf(word, border);
        }

        private int readingsInJoin(int word, int from, int to) {
            return (madeWords.valueOf(partOf(word, from, to)) >> JOIN_SHIFT) & READING_MASK;
        }
    }

    /** Finds the suggestions for a word, and keeps those of the last one. */
    private static final class Suggester {
        private static final int WIDTH = MOST_LETTERS + 1;

        private final Row alike = new Row(LETTERS * LETTERS);
        private final Row word = new Row(MOST_SIGNS);
        private final Row other = new Row(MOST_LETTERS);
        private final Row table = new Row((MOST_SIGNS + 1) * WIDTH);
        private final Row listed = new Row(MOST_SUGGESTED);
        // For each cost, how many suggestions are listed that cost as much or less.
        private final Row upToCost = new Row(MOST_COST + 1);
        private int wordSize;
        private int count;

        /** Tells whether that is new. */
        boolean addSound(int one, int two) {
            boolean isNew = alike.get(one * LETTERS + two) == 0;
            alike.set(one * LETTERS + two, 1);
            alike.set(two * LETTERS + one, 1);
            return isNew;
        }

        int count() {
            return count;
        }

        int listedWord(int suggestion) {
            return listed.get(suggestion);
        }

        int costOfListed(int suggestion) {
            int cost = 1;
            while (cost < MOST_COST && suggestion >= upToCost.get(cost)) {
                cost++;
            }
            return cost;
        }

        /** Looks only at words, and at parts of the table, that are within the reach. */
        void list(Text text, int wordNumber, WordBook suggestable, int reach) {
            wordSize = text.wordSize(wordNumber);
            for (int i = 0; i < wordSize; i++) {
                word.set(i, text.letterOfWord(wordNumber, i));
            }
            count = 0;
            for (int cost = 1; cost <= MOST_COST; cost++) {
                upToCost.set(cost, 0);
            }
            for (int i = 0; i < suggestable.count(); i++) {
                int spelled = suggestable.wordOn(i);
                int cost = costTo(spelled, reach);
                // The word itself is the only one that costs nothing.
                if (isIn(cost, 1, MOST_COST)) {
                    addSuggestion(spelled, cost);
                }
            }
        }

        /** Words are added in their order, so each one goes behind those that cost as much. */
        private void addSuggestion(int spelled, int cost) {
            listed.insert(upToCost.get(cost), spelled, count);
            count++;
            for (int dearer = cost; dearer <= MOST_COST; dearer++) {
                upToCost.set(dearer, upToCost.get(dearer) + 1);
            }
        }

        private int costTo(int spelled, int reach) {
            int size = sizeOf(spelled);
            if (Math.abs(wordSize - size) > reach) {
                return FAR;
            }
            for (int i = 0; i < size; i++) {
                other.set(i, letterOf(spelled, i));
            }
            for (int line = 0; line <= wordSize; line++) {
                int last = Math.min(size, line + reach);
                for (int column = Math.max(0, line - reach); column <= last; column++) {
                    table.set(line * WIDTH + column, leastCost(line, column, reach));
                }
            }
            return table.get(wordSize * WIDTH + size);
        }

        /** Returns what it costs to change so many letters of the word into so many of the other one. */
        private int leastCost(int line, int column, int reach) {
            if (line == 0 && column == 0) {
                return 0;
            }
            int ahead = Math.min(costBefore(line - 1, column, reach), costBefore(line, column - 1, reach));
            int least = ahead + COST_PUT_OR_LEFT;
            if (line > 0 && column > 0) {
                least = Math.min(least, costBefore(line - 1, column - 1, reach) + costToBecome(line - 1, column - 1));
            }
            if (line > 1 && column > 1 && isSwapped(line, column)) {
                least = Math.min(least, costBefore(line - 2, column - 2, reach) + COST_SWAP);
            }
            return least;
        }

        /** Tells whether the last two letters of that part of the word are those of the other part, swapped. */
        private boolean isSwapped(int line, int column) {
            return word.get(line - 1) == other.get(column - 2) && word.get(line - 2) == other.get(column - 1);
        }

        private int costBefore(int line, int column, int reach) {
            boolean isThere = line >= 0 && column >= 0 && Math.abs(line - column) <= reach;
            return isThere ? table.get(line * WIDTH + column) : FAR;
        }

        private int costToBecome(int place, int otherPlace) {
            int from = word.get(place);
            int to = other.get(otherPlace);
            if (from == to) {
                return 0;
            }
            return Math.abs(from - to) == 1 || alike.get(from * LETTERS + to) != 0 ? COST_NEAR : COST_OTHER;
        }
    }

    /** The signs of a text, with its words and sentences. */
    private static final class Text {
        private final Row signs = new Row(MOST_SIGNS);
        private final Row wordStarts = new Row(MOST_WORDS);
        private final Row wordSizes = new Row(MOST_WORDS);
        private final Row spelled = new Row(MOST_WORDS);
        // One more than there are sentences: where the last one ends, another one would begin.
        private final Row sentenceStarts = new Row(MOST_SENTENCES + 1);
        private final Row firstWords = new Row(MOST_SENTENCES + 1);
        private int size;
        private int wordCount;
        private int sentenceCount;

        int size() {
            return size;
        }

        char signOn(int place) {
            return (char) signs.get(place);
        }

        int wordCount() {
            return wordCount;
        }

        int wordStart(int word) {
            return wordStarts.get(word);
        }

        int wordSize(int word) {
            return wordSizes.get(word);
        }

        /** Returns NO_WORD for a word of more than 10 letters. */
        int wordNumbered(int word) {
            return spelled.get(word);
        }

        int letterOfWord(int word, int place) {
            return signs.get(wordStarts.get(word) + place) - 'a';
        }

        /** Returns NO_WORD for a part of more than 10 letters. */
        int partOfWord(int word, int from, int to) {
            int part = EMPTY;
            if (to - from > MOST_LETTERS) {
                return NO_WORD;
            }
            for (int i = from; i < to; i++) {
                part = withLetter(part, letterOfWord(word, i));
            }
            return part;
        }

        int sentenceCount() {
            return sentenceCount;
        }

        int firstWordOf(int sentence) {
            return firstWords.get(sentence);
        }

        void insertSign(int place, int sign) {
            if (size < MOST_SIGNS) {
                signs.insert(place, sign, size);
                size++;
            }
        }

        void removeSign(int place) {
            if (size > 0) {
                signs.remove(place, size);
                size--;
            }
        }

        /** The text has room for it. */
        void replaceWord(int word, int newSpelled) {
            int start = wordStart(word);
            for (int i = 0; i < wordSize(word); i++) {
                removeSign(start);
            }
            for (int i = 0; i < sizeOf(newSpelled); i++) {
                insertSign(start + i, 'a' + letterOf(newSpelled, i));
            }
        }

        void becomeLike(Text other) {
            size = other.size;
            for (int i = 0; i < size; i++) {
                signs.set(i, other.signs.get(i));
            }
            findWords();
        }

        /** Finds the words and sentences anew, after the signs were changed. */
        void findWords() {
            boolean isMarkup = false;
            boolean isInWord = false;
            wordCount = 0;
            sentenceCount = 0;
            for (int i = 0; i < size; i++) {
                int sign = signs.get(i);
                boolean isPart = !isMarkup && isLetter(sign);
                if (isPart) {
                    addLetter(i, sign - 'a', isInWord);
                } else if (sign == '.' && !isMarkup) {
                    endSentence(i + 1);
                } else if (sign == '<' || sign == '>') {
                    isMarkup = sign == '<';
                }
                isInWord = isPart;
            }
            endSentence(size);
        }

        private void addLetter(int place, int letter, boolean isInWord) {
            if (!isInWord) {
                wordStarts.set(wordCount, place);
                wordSizes.set(wordCount, 0);
                spelled.set(wordCount, EMPTY);
                wordCount++;
            }
            int word = wordCount - 1;
            int lettersBefore = wordSizes.get(word);
            wordSizes.set(word, lettersBefore + 1);
            spelled.set(word, lettersBefore < MOST_LETTERS ? withLetter(spelled.get(word), letter) : NO_WORD);
        }

        private void endSentence(int end) {
            sentenceCount++;
            sentenceStarts.set(sentenceCount, end);
            firstWords.set(sentenceCount, wordCount);
        }

        /** Returns how many words the sentences have that the text did not have before. */
        int wordsCheckedSince(Text before) {
            int checked = 0;
            for (int i = 0; i < sentenceCount; i++) {
                int wordsInside = firstWords.get(i + 1) - firstWords.get(i);
                if (wordsInside > 0 && countLike(i, this, i + 1) > countLike(i, before, before.sentenceCount)) {
                    checked += wordsInside;
                }
            }
            return checked;
        }

        private int countLike(int sentence, Text other, int sentencesOfOther) {
            int count = 0;
            for (int i = 0; i < sentencesOfOther; i++) {
                if (isLike(sentence, other, i)) {
                    count++;
                }
            }
            return count;
        }

        private boolean isLike(int sentence, Text other, int otherSentence) {
            int start = sentenceStarts.get(sentence);
            int otherStart = other.sentenceStarts.get(otherSentence);
            int signCount = sentenceStarts.get(sentence + 1) - start;
            if (signCount != other.sentenceStarts.get(otherSentence + 1) - otherStart) {
                return false;
            }
            for (int i = 0; i < signCount; i++) {
                if (signs.get(start + i) != other.signs.get(otherStart + i)) {
                    return false;
                }
            }
            return true;
        }
    }

    /** The texts that a correction went through. */
    private static final class History {
        private final Row signs = new Row((MOST_CHANGES + 1) * MOST_SIGNS);
        private final Row sizes = new Row(MOST_CHANGES + 1);
        private int count;

        void begin(Text text) {
            count = 0;
            keep(text);
        }

        void keep(Text text) {
            if (count <= MOST_CHANGES) {
                sizes.set(count, text.size());
                for (int i = 0; i < text.size(); i++) {
                    signs.set(count * MOST_SIGNS + i, text.signOn(i));
                }
                count++;
            }
        }

        boolean holds(Text text) {
            for (int i = 0; i < count; i++) {
                if (sizes.get(i) == text.size() && isLike(i, text)) {
                    return true;
                }
            }
            return false;
        }

        private boolean isLike(int kept, Text text) {
            for (int i = 0; i < text.size(); i++) {
                if (signs.get(kept * MOST_SIGNS + i) != text.signOn(i)) {
                    return false;
                }
            }
            return true;
        }
    }

    /** What is told of kinds, and by which readings a sentence is read. */
    private static final class Grammar {
        private final Row told = new Row(KINDS * KINDS);
        // Of each word with each reading, NONE included, how few are broken behind it.
        private final Row fewest = new Row(MOST_WORDS * (READINGS + 1));

        /** Returns what was told before. */
        int changeTold(int first, int second, int what) {
            int before = told.get(first * KINDS + second);
            told.set(first * KINDS + second, what);
            return before;
        }

        /** Chooses a reading of each of these words of a sentence, NONE for a word without readings. */
        void choose(Row readingSets, Row chosen, int from, int to) {
            for (int word = to - 1; word >= from; word--) {
                for (int reading = NONE; reading < READINGS; reading++) {
                    int brokenBehind = 0;
                    if (word + 1 < to) {
                        int next = bestReading(readingSets.get(word + 1), word + 1, reading);
                        brokenBehind = countBroken(word + 1, next, reading);
                    }
                    setFewest(word, reading, brokenBehind);
                }
            }
            int before = NONE;
            for (int word = from; word < to; word++) {
                before = bestReading(readingSets.get(word), word, before);
                chosen.set(word, before);
            }
        }

        boolean isBroken(int reading, int nextReading) {
            if (reading == NONE || nextReading == NONE) {
                return false;
            }
            int what = told.get(reading / 2 * KINDS + nextReading / 2);
            return what == APART || (what == AGREE && reading % 2 != nextReading % 2);
        }

        /** Returns the first of the readings by which the fewest are broken from the word before on. */
        private int bestReading(int readingSet, int word, int readingBefore) {
            int best = NONE;
            int least = FAR;
            for (int reading = 0; reading < READINGS; reading++) {
                if (((readingSet >> reading) & 1) != 0) {
                    int broken = countBroken(word, reading, readingBefore);
                    if (broken < least) {
                        least = broken;
                        best = reading;
                    }
                }
            }
            return best;
        }

        private int countBroken(int word, int reading, int readingBefore) {
            int behind = fewest.get(word * (READINGS + 1) + reading + 1);
            return isBroken(readingBefore, reading) ? behind + 1 : behind;
        }

        private void setFewest(int word, int reading, int count) {
            fewest.set(word * (READINGS + 1) + reading + 1, count);
        }
    }

    /** A pattern of items, one of which becomes another word. */
    private static final class Style {
        // A kind, or a word: the number of a word is greater than any kind.
        private final Row items = new Row(MOST_ITEMS);
        private int itemCount;
        private int changedItem;
        private int change = EMPTY;

        void addItem(int item) {
            items.set(itemCount, item);
            itemCount++;
        }

        void setChange(int place, int word) {
            changedItem = place;
            change = word;
        }

        boolean fits(Text text, Row chosen, int word, int to) {
            if (word + itemCount > to) {
                return false;
            }
            for (int i = 0; i < itemCount; i++) {
                if (!fitsItem(items.get(i), text.wordNumbered(word + i), chosen.get(word + i))) {
                    return false;
                }
            }
            return true;
        }

        private static boolean fitsItem(int item, int word, int reading) {
            return item > MOST_KIND ? item == word : reading != NONE && item == reading / 2;
        }
    }

    /** What is found of the words of a text: readings, mistakes, styles. */
    private static final class Proof {
        private final Row readingSets = new Row(MOST_WORDS);
        private final Row chosen = new Row(MOST_WORDS);
        private final Row taken = new Row(MOST_WORDS);
        private final Row broken = new Row(MOST_WORDS);
        private final Row mistakeKinds = new Row(2 * MOST_WORDS);
        private final Row mistakeWords = new Row(2 * MOST_WORDS);
        private int mistakeCount;

        boolean isSpelledRight(int word) {
            return readingSets.get(word) != 0;
        }

        int readingSet(int word) {
            return readingSets.get(word);
        }

        int chosenReading(int word) {
            return chosen.get(word);
        }

        /** Returns the number of the style that is taken from the word on, or NONE. */
        int takenStyle(int word) {
            return taken.get(word);
        }

        int mistakeCount() {
            return mistakeCount;
        }

        int kindOfMistake(int mistake) {
            return mistakeKinds.get(mistake);
        }

        int wordOfMistake(int mistake) {
            return mistakeWords.get(mistake);
        }

        void setReadings(int word, int readingSet) {
            readingSets.set(word, readingSet);
        }

        /** The readings of all words are set. */
        void read(Text text, Grammar grammar, List<Style> styles) {
            for (int sentence = 0; sentence < text.sentenceCount(); sentence++) {
                int from = text.firstWordOf(sentence);
                int to = text.firstWordOf(sentence + 1);
                grammar.choose(readingSets, chosen, from, to);
                markBroken(grammar, from, to);
                takeStyles(text, styles, from, to);
            }
            listMistakes(text.wordCount());
        }

        private void markBroken(Grammar grammar, int from, int to) {
            for (int word = from; word < to; word++) {
                boolean isBroken = word > from && grammar.isBroken(chosen.get(word - 1), chosen.get(word));
                broken.set(word, isBroken ? 1 : 0);
            }
        }

        private void takeStyles(Text text, List<Style> styles, int from, int to) {
            int next = from;
            for (int word = from; word < to; word++) {
                int number = word < next ? NONE : lowestFit(text, styles, word, to);
                Style style = styleNumbered(styles, number);
                taken.set(word, number);
                if (style != null) {
                    next = word + style.itemCount;
                }
            }
        }

        private int lowestFit(Text text, List<Style> styles, int word, int to) {
            for (int i = 0; i < styles.size(); i++) {
                if (styles.get(i).fits(text, chosen, word, to)) {
                    return i;
                }
            }
            return NONE;
        }

        private void listMistakes(int wordCount) {
            mistakeCount = 0;
            for (int word = 0; word < wordCount; word++) {
                if (!isSpelledRight(word)) {
                    addMistake(WRONG, word);
                }
                if (broken.get(word) != 0) {
                    addMistake(BROKEN, word);
                }
                if (taken.get(word) != NONE) {
                    addMistake(STYLE, word);
                }
            }
        }

        private void addMistake(int kind, int word) {
            mistakeKinds.set(mistakeCount, kind);
            mistakeWords.set(mistakeCount, word);
            mistakeCount++;
        }
    }
}
