/** Each promise of the document by calls told by hand: ordinary ones, its edges, and wrong ones. */
public final class PromiseTest {
    private static final String RANGE = "IllegalArgumentException";
    private static final String STATE = "IllegalStateException";
    private static final String INDEX = "IndexOutOfBoundsException";
    private static final int NONE = SpellScribe.NONE;

    private static int wrong;

    interface Call {
        long answer();
    }

    public static void main(String[] args) {
        newObject();
        letters();
        scraps();
        stems();
        rules();
        rulesInUse();
        secondEndings();
        kindsAndForms();
        moreFlags();
        sounds();
        ownWords();
        barredWords();
        ignoredWords();
        toldKinds();
        items();
        stylesAdded();
        signsPutIn();
        signsTakenOut();
        whatIsChecked();
        corrections();
        correctionsThatEnd();
        rings();
        lengthAndSigns();
        wordsOfText();
        longWords();
        rightWords();
        joins();
        readingSets();
        chosenReadings();
        splits();
        mistakesFound();
        stylesTaken();
        suggestionsFound();
        costsOfChanges();
        suggestedLetters();
        madeWords();
        asMuchAsThereCanBe();
        throwingChangesNothing();
        System.out.println(wrong == 0 ? "PromiseTest: all answers are as due" : "PromiseTest: " + wrong + " are not as due");
        if (wrong != 0) {
            System.exit(1);
        }
    }

    private static void due(String what, long got, long want) {
        if (got != want) {
            wrong++;
            System.out.println(what + " answered " + got + ", due is " + want);
        }
    }

    private static void thrown(String what, String want, Call call) {
        String got = "nothing";
        try {
            call.answer();
        } catch (RuntimeException e) {
            String thrower = e.getStackTrace()[0].getClassName();
            got = e.getClass().getSimpleName() + (thrower.equals("SpellScribe") ? "" : " by " + thrower);
        }
        if (!got.equals(want)) {
            wrong++;
            System.out.println(what + " threw " + got + ", due is " + want);
        }
    }

    private static SpellScribe drafted(SpellScribe x, String word) {
        for (int i = 0; i < word.length(); i++) {
            due("letter " + word.charAt(i) + " of " + word, x.letter(word.charAt(i)), i + 1);
        }
        return x;
    }

    private static int stem(SpellScribe x, String word, int flags, int kind, int form, int is) {
        return drafted(x, word).stem(flags, kind, form, is);
    }

    private static int ending(SpellScribe x, int flag, int strip, String added) {
        return drafted(x, added).rule(flag, true, strip, ' ', NONE, NONE);
    }

    private static void style(SpellScribe x, int place, String change, String... items) {
        for (String item : items) {
            boolean isKind = Character.isDigit(item.charAt(0));
            if (!isKind) {
                drafted(x, item);
            }
            x.item(isKind ? item.charAt(0) - '0' : NONE);
        }
        drafted(x, change).style(place);
    }

    private static SpellScribe write(SpellScribe x, String text) {
        int end = x.length();
        for (int i = 0; i < text.length(); i++) {
            x.put(end + i, text.charAt(i));
        }
        return x;
    }

    private static void rewrite(SpellScribe x, String text) {
        for (int left = x.length(); left > 0; left--) {
            x.take(left - 1);
        }
        write(x, text);
    }

    private static void text(String what, SpellScribe x, String want) {
        StringBuilder got = new StringBuilder();
        int size = x.length();
        for (int i = 0; i < size; i++) {
            got.append(x.signAt(i));
        }
        if (!got.toString().equals(want)) {
            wrong++;
            System.out.println(what + " is \"" + got + "\", due is \"" + want + "\"");
        }
    }

    /** All suggestions for a word, each with its cost: "bad1 bed2". */
    private static void suggestions(String what, SpellScribe x, int word, String want) {
        StringBuilder got = new StringBuilder();
        int count = x.suggestions(word);
        for (int s = 0; s < count; s++) {
            got.append(s == 0 ? "" : " ");
            for (int place = 0; x.suggested(word, s, place) != ' '; place++) {
                got.append(x.suggested(word, s, place));
            }
            got.append(x.cost(word, s));
        }
        if (!got.toString().equals(want)) {
            wrong++;
            System.out.println(what + ": \"" + got + "\", due is \"" + want + "\"");
        }
        due(what + " by all", x.suggestionsByAll(word), count);
    }

    /** All mistakes: "W0 B1 S1". */
    private static void mistakes(String what, SpellScribe x, String want) {
        StringBuilder got = new StringBuilder();
        int count = x.mistakes();
        for (int i = 0; i < count; i++) {
            got.append(i == 0 ? "" : " ").append("WBS".charAt(x.mistakeKind(i))).append(x.mistakeAt(i));
        }
        if (!got.toString().equals(want)) {
            wrong++;
            System.out.println(what + ": \"" + got + "\", due is \"" + want + "\"");
        }
    }

    private static void newObject() {
        SpellScribe x = new SpellScribe();
        due("1 length", x.length(), 0);
        due("1 words", x.words(), 0);
        due("1 mistakes", x.mistakes(), 0);
        due("1 made", x.made(), 0);
        due("1 correct", x.correct(), 0);
        due("1 scrap", x.scrap(), 0);
        thrown("1 more", INDEX, () -> x.more(0, 0));
        thrown("1 style", STATE, () -> x.style(0));
        due("1 first stem", stem(x, "ab", 0, 0, 0, 0), 0);
        SpellScribe other = new SpellScribe();
        due("1 another object", other.made(), 0);
    }

    private static void letters() {
        SpellScribe x = new SpellScribe();
        String all = "abcdefgh";
        for (int i = 0; i < all.length(); i++) {
            due("2 letter", x.letter(all.charAt(i)), i + 1);
        }
        for (char bad : new char[] {'i', '`', 'A', ' ', '.', 0, 'z', 65535}) {
            thrown("2 letter " + (int) bad, RANGE, () -> x.letter(bad));
        }
        due("2 ninth", x.letter('h'), 9);
        due("2 tenth", x.letter('a'), 10);
        thrown("2 eleventh", STATE, () -> x.letter('a'));
        thrown("2 eleventh, out of range", RANGE, () -> x.letter('i'));
        x.own(0, 0);
        write(x, "abcdefghha");
        due("2 order of letters", x.isRight(0) ? 1 : 0, 1);
    }

    private static void scraps() {
        SpellScribe x = new SpellScribe();
        due("3 nothing", x.scrap(), 0);
        due("3 three", drafted(x, "abc").scrap(), 3);
        due("3 then nothing", x.scrap(), 0);
        due("3 ten", drafted(x, "abcdefghab").scrap(), 10);
    }

    private static void stems() {
        SpellScribe x = new SpellScribe();
        thrown("4 no draft", STATE, () -> x.stem(0, 0, 0, 0));
        x.letter('a');
        int[][] bad = {{-1, 0, 0, 0}, {64, 0, 0, 0}, {0, -1, 0, 0}, {0, 4, 0, 0},
            {0, 0, -1, 0}, {0, 0, 2, 0}, {0, 0, 0, -1}, {0, 0, 0, 8}};
        for (int[] b : bad) {
            thrown("4 out of range", RANGE, () -> x.stem(b[0], b[1], b[2], b[3]));
        }
        due("4 draft stays", x.letter('b'), 2);
        due("4 first", x.stem(63, 3, 1, 7), 0);
        due("4 draft is taken", x.scrap(), 0);
        for (int i = 1; i < 12; i++) {
            due("4 number", stem(x, "ab", 0, 0, 0, 0), i);
        }
        x.letter('a');
        thrown("4 twelve", STATE, () -> x.stem(0, 0, 0, 0));
        thrown("4 twelve, out of range", RANGE, () -> x.stem(0, 4, 0, 0));
        due("4 draft stays", x.scrap(), 1);
    }

    private static void rules() {
        SpellScribe x = new SpellScribe();
        x.letter('a');
        thrown("5 flag", RANGE, () -> x.rule(-1, true, 0, ' ', 0, 0));
        thrown("5 flag", RANGE, () -> x.rule(6, true, 0, ' ', 0, 0));
        thrown("5 strip", RANGE, () -> x.rule(0, true, -1, ' ', 0, 0));
        thrown("5 strip", RANGE, () -> x.rule(0, true, 3, ' ', 0, 0));
        for (char bad : new char[] {'i', '`', '.', 0, '<'}) {
            thrown("5 with", RANGE, () -> x.rule(0, true, 0, bad, 0, 0));
        }
        thrown("5 kind", RANGE, () -> x.rule(0, true, 0, ' ', -2, 0));
        thrown("5 kind", RANGE, () -> x.rule(0, true, 0, ' ', 4, 0));
        thrown("5 form", RANGE, () -> x.rule(0, true, 0, ' ', 0, -2));
        thrown("5 form", RANGE, () -> x.rule(0, true, 0, ' ', 0, 2));
        x.scrap();
        thrown("5 none drafted, none stripped", STATE, () -> x.rule(0, true, 0, ' ', 0, 0));
        drafted(x, "abcde");
        thrown("5 five letters", STATE, () -> x.rule(0, true, 1, ' ', 0, 0));
        due("5 draft stays", x.scrap(), 5);
        due("5 none drafted, one stripped", x.rule(5, true, 1, 'h', NONE, NONE), 0);
        due("5 four letters", drafted(x, "abcd").rule(0, false, 2, 'a', 3, 1), 1);
        due("5 draft is taken", x.scrap(), 0);
        for (int i = 2; i < 8; i++) {
            due("5 number", ending(x, 0, 0, "a"), i);
        }
        x.letter('a');
        thrown("5 eight", STATE, () -> x.rule(0, true, 0, ' ', 0, 0));
        thrown("5 eight, out of range", RANGE, () -> x.rule(0, true, 0, 'i', 0, 0));
    }

    private static void rulesInUse() {
        SpellScribe x = new SpellScribe();
        stem(x, "ab", 1, 0, 0, 0);
        stem(x, "a", 1, 0, 0, 0);
        stem(x, "cba", 1, 0, 0, 0);
        due("5 as many letters as are stripped", x.made(), 3);
        drafted(x, "h").rule(0, true, 2, ' ', NONE, NONE);
        due("5 only the long one", x.made(), 4);
        write(x, "ch");
        due("5 strips two and adds", x.isRight(0) ? 1 : 0, 1);
        drafted(x, "g").rule(0, false, 1, 'c', NONE, NONE);
        rewrite(x, "gba gh gb g ag");
        for (int i = 0; i < 5; i++) {
            due("5 beginning with c " + i, x.isRight(i) ? 1 : 0, i < 2 ? 1 : 0);
        }
        SpellScribe y = new SpellScribe();
        stem(y, "abababab", 2, 0, 0, 0);
        drafted(y, "cde").rule(1, true, 0, ' ', NONE, NONE);
        due("5 eleven letters", y.made(), 1);
        drafted(y, "cde").rule(1, true, 1, 'b', NONE, NONE);
        due("5 ten letters", y.made(), 2);
        drafted(y, "cde").rule(0, true, 1, 'b', NONE, NONE);
        drafted(y, "cd").rule(1, true, 1, 'a', NONE, NONE);
        due("5 other flag, other letter", y.made(), 2);
    }

    private static void secondEndings() {
        SpellScribe x = new SpellScribe();
        stem(x, "ab", 1, 0, 0, 0);
        ending(x, 0, 0, "c");
        ending(x, 1, 0, "d");
        ending(x, 2, 0, "e");
        drafted(x, "h").rule(0, false, 0, ' ', NONE, NONE);
        drafted(x, "g").rule(1, false, 0, ' ', NONE, NONE);
        due("6 ending and beginning", x.made(), 4);
        x.more(0, 2);
        x.more(1, 4);
        due("6 two endings, not three", x.made(), 6);
        write(x, "ab abc abcd hab habc habcd abcde abd gab hgab");
        for (int i = 0; i < 10; i++) {
            due("6 made word " + i, x.isRight(i) ? 1 : 0, i < 6 ? 1 : 0);
        }
        x.more(0, 1);
        rewrite(x, "abcc abcd abccc habcc");
        due("6 a rule behind itself", x.isRight(0) ? 1 : 0, 1);
        due("6 flags replaced", x.isRight(1) ? 1 : 0, 0);
        due("6 not three", x.isRight(2) ? 1 : 0, 0);
        due("6 with a beginning", x.isRight(3) ? 1 : 0, 1);
    }

    private static void kindsAndForms() {
        SpellScribe x = new SpellScribe();
        stem(x, "ab", 3, 0, 1, 0);
        drafted(x, "c").rule(0, true, 0, ' ', 1, NONE);
        drafted(x, "d").rule(2, true, 0, ' ', NONE, 0);
        drafted(x, "e").rule(1, false, 0, ' ', 3, NONE);
        x.more(0, 4);
        write(x, "ab abc abcd eab eabcd");
        int[] sets = {1 << 1, 1 << 3, 1 << 2, 1 << 7, 1 << 6};
        for (int i = 0; i < sets.length; i++) {
            due("5 kind and form of " + i, x.readings(i), sets[i]);
        }
    }

    private static void moreFlags() {
        SpellScribe x = new SpellScribe();
        ending(x, 0, 0, "c");
        drafted(x, "h").rule(0, false, 0, ' ', NONE, NONE);
        due("6 none before", x.more(0, 63), 0);
        due("6 before", x.more(0, 5), 63);
        due("6 before", x.more(0, 0), 5);
        thrown("6 no rule", INDEX, () -> x.more(-1, 0));
        thrown("6 no rule", INDEX, () -> x.more(2, 64));
        thrown("6 flags", RANGE, () -> x.more(0, -1));
        thrown("6 flags", RANGE, () -> x.more(1, 64));
        thrown("6 beginning", STATE, () -> x.more(1, 1));
        due("6 unchanged", x.more(0, 0), 0);
    }

    private static void sounds() {
        SpellScribe x = new SpellScribe();
        thrown("7 one", RANGE, () -> x.sound('i', 'a') ? 1 : 0);
        thrown("7 other", RANGE, () -> x.sound('a', ' ') ? 1 : 0);
        thrown("7 same", RANGE, () -> x.sound('c', 'c') ? 1 : 0);
        stem(x, "ab", 0, 0, 0, 0);
        write(x, "hb");
        due("7 unlike", x.cost(0, 0), 2);
        due("7 new", x.sound('a', 'h') ? 1 : 0, 1);
        due("7 alike", x.cost(0, 0), 1);
        due("7 again", x.sound('a', 'h') ? 1 : 0, 0);
        due("7 the other way", x.sound('h', 'a') ? 1 : 0, 0);
        due("7 another", x.sound('h', 'd') ? 1 : 0, 1);
        rewrite(x, "db");
        due("7 not what sounds like what sounds alike", x.cost(0, 0), 2);
    }

    private static void ownWords() {
        SpellScribe x = new SpellScribe();
        thrown("8 no draft", STATE, () -> x.own(0, 0));
        thrown("8 kind", RANGE, () -> x.own(4, 0));
        thrown("8 kind", RANGE, () -> x.own(-1, 0));
        thrown("8 form", RANGE, () -> x.own(0, 2));
        thrown("8 form", RANGE, () -> x.own(0, -1));
        for (int i = 0; i < 8; i++) {
            due("8 count", drafted(x, "" + (char) ('a' + i)).own(0, 0), i + 1);
        }
        due("8 nine", drafted(x, "aa").own(1, 0), 9);
        due("8 like one", drafted(x, "aa").own(2, 1), 9);
        write(x, "aa");
        due("8 in place of it", x.readings(0), 1 << 5);
        due("8 ten", drafted(x, "bb").own(0, 0), 10);
        drafted(x, "cc");
        thrown("8 ten others", STATE, () -> x.own(0, 0));
        thrown("8 ten others, kind", RANGE, () -> x.own(4, 0));
        due("8 draft stays", x.scrap(), 2);
        due("8 like one of ten", drafted(x, "bb").own(1, 1), 10);
        due("8 barred", drafted(x, "aa").bar(), 1);
        due("8 barred is not right", x.isRight(0) ? 1 : 0, 0);
        due("8 there is room then", drafted(x, "aa").own(3, 0), 10);
        due("8 barred no more", x.readings(0), 1 << 6);
        due("8 none is barred", drafted(x, "hh").bar(), 1);
    }

    private static void barredWords() {
        SpellScribe x = new SpellScribe();
        thrown("9 no draft", STATE, () -> x.bar());
        stem(x, "ab", 0, 0, 0, 0);
        write(x, "ab");
        due("9 first", drafted(x, "ab").bar(), 1);
        due("9 barred", x.isRight(0) ? 1 : 0, 0);
        due("9 no readings", x.readings(0), 0);
        due("9 again", drafted(x, "ab").bar(), 1);
        for (int i = 2; i <= 10; i++) {
            due("9 count", drafted(x, "" + (i < 10 ? (char) ('a' + i - 2) : 'a') + (i < 10 ? "" : "a")).bar(), i);
        }
        drafted(x, "cc");
        thrown("9 ten others", STATE, () -> x.bar());
        due("9 draft stays", x.scrap(), 2);
        due("9 like one of ten", drafted(x, "ab").bar(), 10);
        due("9 own instead", drafted(x, "ab").own(1, 1), 1);
        due("9 right by both", x.readings(0), 1 | 1 << 3);
        due("9 room for one", drafted(x, "ab").bar(), 10);
        due("9 own no more", drafted(x, "ba").own(0, 0), 1);
    }

    private static void ignoredWords() {
        SpellScribe x = new SpellScribe();
        thrown("10 no word", INDEX, () -> x.ignore(0));
        stem(x, "abc", 0, 2, 1, 0);
        write(x, "abc ab.ab <ab> abb");
        thrown("10 no word", INDEX, () -> x.ignore(-1));
        thrown("10 no word", INDEX, () -> x.ignore(4));
        thrown("10 right", STATE, () -> x.ignore(0));
        due("10 once", x.ignore(1), 1);
        due("10 a word like it", x.ignore(2), 2);
        due("10 another", x.ignore(3), 1);
        due("10 learned", x.ignore(1), 0);
        due("10 kind 0, form 0", x.readings(2), 1);
        thrown("10 right then", STATE, () -> x.ignore(1));
        due("10 one own word", drafted(x, "ab").own(0, 0), 1);
        drafted(x, "abb").bar();
        thrown("10 barred", STATE, () -> x.ignore(3));
        rewrite(x, "abcdefghaba");
        thrown("10 eleven letters", STATE, () -> x.ignore(0));
        x.take(0);
        due("10 ten letters", x.ignore(0), 1);
        ignoredWithTenOwn();
    }

    private static void ignoredWithTenOwn() {
        SpellScribe x = new SpellScribe();
        for (int i = 0; i < 10; i++) {
            drafted(x, "a" + (char) ('a' + i % 8) + (i < 8 ? "" : "a")).own(0, 0);
        }
        write(x, "hh");
        for (int i = 1; i < 6; i++) {
            due("10 no room", x.ignore(0), i);
        }
        drafted(x, "aa").bar();
        due("10 room, more than three times", x.ignore(0), 0);
        due("10 right", x.isRight(0) ? 1 : 0, 1);
    }

    private static void toldKinds() {
        SpellScribe x = new SpellScribe();
        due("11 free at first", x.tell(3, 0, SpellScribe.AGREE), SpellScribe.FREE);
        due("11 before", x.tell(3, 0, SpellScribe.APART), SpellScribe.AGREE);
        due("11 the other way", x.tell(0, 3, SpellScribe.FREE), SpellScribe.FREE);
        due("11 before", x.tell(3, 0, SpellScribe.FREE), SpellScribe.APART);
        int[][] bad = {{-1, 0, 0}, {4, 0, 0}, {0, -1, 0}, {0, 4, 0}, {0, 0, -1}, {0, 0, 3}};
        for (int[] b : bad) {
            thrown("11 out of range", RANGE, () -> x.tell(b[0], b[1], b[2]));
        }
    }

    private static void items() {
        SpellScribe x = new SpellScribe();
        thrown("12 kind", RANGE, () -> x.item(-2));
        thrown("12 kind", RANGE, () -> x.item(4));
        thrown("12 no draft", STATE, () -> x.item(NONE));
        due("12 first", x.item(0), 1);
        due("12 second", drafted(x, "ab").item(NONE), 2);
        due("12 draft is taken", x.scrap(), 0);
        x.letter('c');
        due("12 third", x.item(3), 3);
        due("12 a kind takes no draft", x.letter('d'), 2);
        thrown("12 three", STATE, () -> x.item(0));
        thrown("12 three", STATE, () -> x.item(NONE));
        thrown("12 three, out of range", RANGE, () -> x.item(4));
        due("12 draft stays", x.scrap(), 2);
        drafted(x, "h").style(2);
        due("12 none at first", x.item(1), 1);
    }

    private static void stylesAdded() {
        SpellScribe x = new SpellScribe();
        thrown("13 no items", STATE, () -> x.style(0));
        x.letter('a');
        thrown("13 no items, but a draft", STATE, () -> x.style(5));
        x.item(0);
        x.item(1);
        thrown("13 no place", INDEX, () -> x.style(-1));
        thrown("13 no place", INDEX, () -> x.style(2));
        due("13 draft stays", x.scrap(), 1);
        thrown("13 no draft", STATE, () -> x.style(2));
        due("13 items stay", x.item(2), 3);
        due("13 first", drafted(x, "a").style(2), 0);
        due("13 draft is taken", x.scrap(), 0);
        for (int i = 1; i < 8; i++) {
            x.item(0);
            due("13 number", drafted(x, "a").style(0), i);
        }
        due("13 a ninth one is drafted", x.item(0), 1);
        x.letter('a');
        thrown("13 eight", STATE, () -> x.style(0));
        thrown("13 eight", STATE, () -> x.style(1));
    }

    private static void signsPutIn() {
        SpellScribe x = new SpellScribe();
        thrown("14 place", INDEX, () -> x.put(-1, 'a'));
        thrown("14 place", INDEX, () -> x.put(1, 'i'));
        for (char bad : new char[] {'i', '`', ',', '/', '=', '?', ';', '!', 0, 'A'}) {
            thrown("14 sign", RANGE, () -> x.put(0, bad));
        }
        write(x, "ah .<>");
        x.put(0, 'b');
        x.put(3, 'c');
        text("14 text", x, "bahc .<>");
        rewrite(x, "");
        for (int i = 0; i < 100; i++) {
            x.put(i, 'a');
        }
        thrown("14 a hundred", STATE, () -> x.put(0, 'a'));
        thrown("14 a hundred, sign", RANGE, () -> x.put(100, 'i'));
        thrown("14 a hundred, place", INDEX, () -> x.put(101, 'a'));
        due("14 still a hundred", x.length(), 100);
    }

    private static void signsTakenOut() {
        SpellScribe x = new SpellScribe();
        thrown("15 empty", INDEX, () -> x.take(0));
        write(x, "abc.");
        thrown("15 place", INDEX, () -> x.take(-1));
        thrown("15 place", INDEX, () -> x.take(4));
        due("15 words checked", x.take(1), 1);
        text("15 text", x, "ac.");
        due("15 last", x.take(2), 1);
        due("15 then", x.take(1), 1);
        due("15 none left", x.take(0), 0);
        due("15 empty", x.length(), 0);
    }

    private static void whatIsChecked() {
        SpellScribe x = write(new SpellScribe(), "a b.a b");
        due("14 another one like it", x.put(7, '.'), 2);
        due("14 only blanks behind", x.put(8, ' '), 0);
        due("14 a sentence in two, one of them there before", x.put(0, '.'), 0);
        due("15 fewer like ones are no more", x.take(0), 0);
        rewrite(x, "a b c.d");
        due("14 in two new ones", x.put(2, '.'), 3);
        due("15 into one", x.take(2), 3);
        due("14 markup to the end", x.put(1, '<'), 1);
        due("14 markup ends, and the last sentence is one of its own again", x.put(3, '>'), 4);
        due("14 a point in markup ends nothing", x.put(2, '.'), 3);
        text("14 text", x, "a<. >b c.d");
        rewrite(x, "aa.aa.a.");
        due("14 a third like one", x.put(6, 'a'), 1);
        due("15 and back", x.take(6), 1);
        rewrite(x, "a.a.b");
        due("15 one joins the other", x.take(1), 1);
        text("15 text", x, "aa.b");
    }

    private static void corrections() {
        SpellScribe x = new SpellScribe();
        stem(x, "bad", 0, 0, 0, 0);
        stem(x, "cab", 0, 1, 0, 0);
        write(x, "bda cab acb");
        due("16 two words", x.correct(), 2);
        text("16 text", x, "bad cab cab");
        due("16 nothing to do", x.correct(), 0);
        rewrite(x, "hhhhhhhh bda");
        due("16 one has no suggestion", x.correct(), 1);
        text("16 text", x, "hhhhhhhh bad");
        style(x, 1, "gab", "bad", "1");
        rewrite(x, "bad cba");
        drafted(x, "gab").own(1, 1);
        due("16 words ahead of styles, gab again and again", x.correct(), NONE);
        text("16 text", x, "bad gab");
        drafted(x, "gab").own(2, 1);
        rewrite(x, "bad cba");
        due("16 a word, then a style", x.correct(), 2);
        text("16 text", x, "bad gab");
        drafted(x, "gab").bar();
        rewrite(x, "bad cba.cab");
        style(x, 0, "bad", "1");
        due("16 the change is wrong and corrected at once", x.correct(), NONE);
        text("16 text", x, "bad cab.cab");
    }

    private static void correctionsThatEnd() {
        SpellScribe x = new SpellScribe();
        stem(x, "abb", 0, 0, 0, 0);
        write(x, "ab.ab ");
        for (int i = 6; i < 99; i++) {
            x.put(i, '>');
        }
        due("16 room for one", x.correct(), 1);
        due("16 a hundred signs", x.length(), 100);
        due("16 no room for the other", x.isRight(1) ? 1 : 0, 0);
        x.take(99);
        due("16 room again", x.correct(), 1);
        SpellScribe y = new SpellScribe();
        stem(y, "aa", 0, 0, 0, 0);
        write(y, "ab ab ab ab ab ab ab ab ab ab ab ab ab ab ab ab ab ab ab ab ab ab");
        due("16 twenty changes", y.correct(), 20);
        due("16 two are left", y.mistakes(), 2);
        due("16 the rest", y.correct(), 2);
    }

    private static void rings() {
        SpellScribe x = new SpellScribe();
        stem(x, "aa", 0, 0, 0, 0);
        stem(x, "bb", 0, 0, 0, 0);
        style(x, 0, "bb", "aa");
        style(x, 0, "aa", "bb");
        write(x, "aa");
        due("16 as it was when it began", x.correct(), NONE);
        text("16 text", x, "aa");
        SpellScribe y = new SpellScribe();
        stem(y, "aa", 0, 0, 0, 0);
        style(y, 0, "aa", "aa");
        write(y, "aa");
        due("16 what is there already", y.correct(), NONE);
        rewrite(y, "ab");
        due("16 behind a change before", y.correct(), NONE);
        SpellScribe z = new SpellScribe();
        stem(z, "aa", 0, 0, 0, 0);
        style(z, 0, "aa", "aa");
        write(z, "ab ab ab ab ab ab ab ab ab ab ab ab ab ab ab ab ab ab ab");
        due("16 a ring by the 20th change", z.correct(), NONE);
        write(z, " ab");
        rewrite(z, "ab ab ab ab ab ab ab ab ab ab ab ab ab ab ab ab ab ab ab ab");
        due("16 no ring by the 20th change", z.correct(), 20);
    }

    private static void lengthAndSigns() {
        SpellScribe x = new SpellScribe();
        thrown("18 empty", INDEX, () -> x.signAt(0));
        write(x, "a .<>h");
        due("17 length", x.length(), 6);
        text("18 signs", x, "a .<>h");
        thrown("18 below", INDEX, () -> x.signAt(-1));
        thrown("18 behind", INDEX, () -> x.signAt(6));
    }

    private static void wordsOfText() {
        SpellScribe x = write(new SpellScribe(), " ab<c>d.e>f <g<h>a .");
        due("19 words", x.words(), 5);
        int[] starts = {1, 6, 8, 10, 17};
        for (int i = 0; i < starts.length; i++) {
            due("20 start of " + i, x.wordAt(i), starts[i]);
        }
        thrown("20 below", INDEX, () -> x.wordAt(-1));
        thrown("20 behind", INDEX, () -> x.wordAt(5));
        x.put(0, '<');
        due("19 up to the next >", x.words(), 4);
        rewrite(x, "a<b c.d");
        due("19 markup up to the end", x.words(), 1);
        rewrite(x, "a b c d e f g h a b c d e f g h a b c d e f g h a b c d e f g h a b c d e f g h a b c d e f g h a b ");
        due("19 fifty words", x.words(), 50);
        due("20 the last one", x.wordAt(49), 98);
        rewrite(x, " . . ");
        due("19 none", x.words(), 0);
        thrown("20 none", INDEX, () -> x.wordAt(0));
    }

    private static void longWords() {
        SpellScribe x = new SpellScribe();
        stem(x, "abcdefgh", 1, 0, 0, 0);
        ending(x, 0, 0, "ab");
        write(x, "abcdefghab abcdefghabc abcdefghabcd abcdefghabcde");
        due("21 ten letters", x.isRight(0) ? 1 : 0, 1);
        due("21 eleven letters", x.isRight(1) ? 1 : 0, 0);
        suggestions("28 of eleven letters", x, 1, "abcdefghab2");
        suggestions("28 of twelve letters", x, 2, "abcdefghab4");
        suggestions("28 of thirteen letters", x, 3, "");
        due("16 eleven letters", x.correct(), 2);
        text("16 text", x, "abcdefghab abcdefghab abcdefghab abcdefghabcde");
        style(x, 0, "a", "ab");
        mistakes("25 a long word is wrong", x, "W3");
    }

    private static void rightWords() {
        SpellScribe x = new SpellScribe();
        thrown("21 no word", INDEX, () -> x.isRight(0) ? 1 : 0);
        stem(x, "ab", 0, 0, 0, SpellScribe.NEVER);
        stem(x, "cd", 0, 0, 0, SpellScribe.JOINS_ONLY);
        stem(x, "ef", 0, 0, 0, SpellScribe.JOINABLE);
        drafted(x, "gh").own(0, 0);
        write(x, "ab cd ef gh ba");
        boolean[] right = {true, false, true, true, false};
        for (int i = 0; i < right.length; i++) {
            due("21 word " + i, x.isRight(i) ? 1 : 0, right[i] ? 1 : 0);
        }
        thrown("21 below", INDEX, () -> x.isRight(-1) ? 1 : 0);
        thrown("21 behind", INDEX, () -> x.isRight(5) ? 1 : 0);
        stem(x, "cd", 0, 3, 0, 0);
        due("21 by another stem", x.readings(1), 1 << 6);
    }

    private static void joins() {
        SpellScribe x = new SpellScribe();
        stem(x, "ab", 0, 0, 0, SpellScribe.JOINABLE);
        stem(x, "cd", 0, 1, 1, SpellScribe.JOINS_ONLY);
        stem(x, "d", 0, 0, 0, SpellScribe.JOINABLE);
        stem(x, "ef", 0, 2, 0, SpellScribe.JOINABLE | SpellScribe.NEVER);
        stem(x, "gg", 0, 2, 0, 0);
        stem(x, "efgh", 0, 3, 0, SpellScribe.JOINABLE);
        stem(x, "bcde", 0, 3, 1, SpellScribe.JOINABLE);
        write(x, "abcd cdab cdcd abcdef abd abgg abbcde efcdefgh abcdabcd cdefghefgh");
        // Not: a word of one letter; one that is not to be joined; a border of like letters; four words.
        int[] sets = {1 << 3, 1, 1 << 3, 1 << 4, 0, 0, 0, 1 << 6, 0, 1 << 6};
        for (int i = 0; i < sets.length; i++) {
            due("21 join " + i, x.readings(i), sets[i]);
        }
        rewrite(x, "cdab");
        drafted(x, "cd").bar();
        drafted(x, "ab").bar();
        due("21 barred parts", x.isRight(0) ? 1 : 0, 1);
        drafted(x, "cdab").bar();
        due("21 barred join", x.isRight(0) ? 1 : 0, 0);
        drafted(x, "gg").own(0, 0);
        rewrite(x, "ggab efcdefgh efbcdecd");
        due("21 own words do not join", x.isRight(0) ? 1 : 0, 0);
        due("21 three words", x.isRight(1) ? 1 : 0, 1);
        due("21 three words of ten letters less two", x.isRight(2) ? 1 : 0, 1);
        suggestions("28 joins are not suggested", x, 0, "gg4");
    }

    private static void readingSets() {
        SpellScribe x = new SpellScribe();
        stem(x, "aa", 0, 0, 0, SpellScribe.JOINABLE);
        stem(x, "aa", 0, 1, 1, 0);
        stem(x, "aa", 0, 1, 1, 0);
        stem(x, "aa", 0, 2, 0, SpellScribe.JOINS_ONLY);
        stem(x, "bb", 0, 3, 1, SpellScribe.JOINABLE);
        stem(x, "bbaa", 0, 3, 0, 0);
        write(x, "aa bbaa bb ab");
        due("22 not those for joins only", x.readings(0), 1 | 1 << 3);
        due("22 of the join and of the stem", x.readings(1), 1 | 1 << 4 | 1 << 6);
        due("22 last bit", x.readings(2), 1 << 7);
        due("22 not right", x.readings(3), 0);
        drafted(x, "aa").own(3, 1);
        due("22 the own one too", x.readings(0), 1 | 1 << 3 | 1 << 7);
        thrown("22 below", INDEX, () -> x.readings(-1));
        thrown("22 behind", INDEX, () -> x.readings(4));
    }

    private static void chosenReadings() {
        SpellScribe x = new SpellScribe();
        stem(x, "aa", 0, 0, 0, 0);
        stem(x, "aa", 0, 0, 1, 0);
        stem(x, "bb", 0, 1, 1, 0);
        stem(x, "cc", 0, 2, 0, 0);
        stem(x, "cc", 0, 3, 0, 0);
        write(x, "aa bb");
        due("23 least", x.reading(0), 0);
        x.tell(0, 1, SpellScribe.AGREE);
        due("23 forms alike", x.reading(0), 1);
        due("23 second", x.reading(1), 3);
        x.tell(0, 1, SpellScribe.APART);
        due("23 broken by all", x.reading(0), 0);
        mistakes("25 the second one", x, "B1");
        rewrite(x, "aa bd bb cc.cc");
        mistakes("25 nothing by a wrong word", x, "W1");
        due("23 wrong", x.reading(1), NONE);
        x.tell(1, 2, SpellScribe.APART);
        due("23 the other kind", x.reading(3), 6);
        due("23 another sentence", x.reading(4), 4);
        x.tell(2, 3, SpellScribe.APART);
        x.tell(1, 3, SpellScribe.APART);
        due("23 one is broken anyway", x.reading(3), 4);
        mistakes("25 broken", x, "W1 B3");
        thrown("23 below", INDEX, () -> x.reading(-1));
        thrown("23 behind", INDEX, () -> x.reading(5));
        chosenFromTheFirstWordOn();
    }

    private static void chosenFromTheFirstWordOn() {
        SpellScribe x = new SpellScribe();
        stem(x, "aa", 0, 0, 0, 0);
        stem(x, "aa", 0, 1, 0, 0);
        stem(x, "bb", 0, 2, 0, 0);
        stem(x, "bb", 0, 2, 1, 0);
        stem(x, "cc", 0, 3, 1, 0);
        x.tell(0, 2, SpellScribe.APART);
        x.tell(2, 3, SpellScribe.AGREE);
        write(x, "aa bb cc aa");
        due("23 fewest broken", x.reading(0), 2);
        due("23 fewest broken", x.reading(1), 5);
        x.tell(1, 2, SpellScribe.AGREE);
        due("23 of several the least first word", x.reading(0), 0);
        due("23 then the second one", x.reading(1), 5);
        mistakes("25 broken", x, "B1");
    }

    private static void splits() {
        SpellScribe x = new SpellScribe();
        stem(x, "a", 0, 0, 0, 0);
        stem(x, "ab", 0, 0, 0, SpellScribe.JOINABLE);
        stem(x, "b", 0, 0, 0, 0);
        stem(x, "cd", 0, 0, 0, SpellScribe.JOINS_ONLY);
        stem(x, "abababab", 0, 0, 0, 0);
        write(x, "aab ab acd aba aabcd a abababababab ababababa");
        // The last but one: a join of 4 letters ahead of a stem of 8.
        int[] places = {1, 1, NONE, 2, 1, NONE, 4, 8};
        for (int i = 0; i < places.length; i++) {
            due("24 split of " + i, x.split(i), places[i]);
        }
        drafted(x, "a").bar();
        due("24 a part is barred", x.split(1), NONE);
        due("24 at another place", x.split(0), NONE);
        thrown("24 below", INDEX, () -> x.split(-1));
        thrown("24 behind", INDEX, () -> x.split(8));
    }

    private static void mistakesFound() {
        SpellScribe x = new SpellScribe();
        stem(x, "aa", 0, 0, 0, 0);
        stem(x, "bb", 0, 1, 0, 0);
        x.tell(0, 1, SpellScribe.APART);
        x.tell(1, 1, SpellScribe.APART);
        style(x, 0, "aa", "bb");
        style(x, 0, "aa", "cc");
        write(x, "aa bb bb cc aa.bb bb");
        due("25 mistakes", x.mistakes(), 9);
        mistakes("26 in order", x, "B1 S1 B2 S2 W3 S3 S5 B6 S6");
        thrown("26 below", INDEX, () -> x.mistakeKind(-1));
        thrown("26 behind", INDEX, () -> x.mistakeKind(9));
        thrown("27 below", INDEX, () -> x.mistakeAt(-1));
        thrown("27 behind", INDEX, () -> x.mistakeAt(9));
    }

    private static void stylesTaken() {
        SpellScribe x = new SpellScribe();
        stem(x, "aa", 0, 0, 0, 0);
        stem(x, "bb", 0, 1, 0, 0);
        style(x, 2, "aa", "0", "1", "bb");
        style(x, 1, "aa", "0", "1");
        style(x, 0, "aa", "1", "0");
        write(x, "aa bb bb aa bb.bb.aa bb aa");
        mistakes("25 styles", x, "S0 S3 S6");
        due("16 styles", x.correct(), 4);
        text("16 text", x, "aa aa aa aa aa.bb.aa aa aa");
        SpellScribe y = new SpellScribe();
        stem(y, "aa", 0, 0, 0, 0);
        stem(y, "bb", 0, 1, 0, 0);
        style(y, 1, "cc", "hhhhhhhh", "1");
        drafted(y, "cc").own(3, 1);
        write(y, "aa hhhhhhhh bb");
        mistakes("25 an item may be a wrong word", y, "W1 S1");
        due("16 one style", y.correct(), 1);
        text("16 text", y, "aa hhhhhhhh cc");
    }

    private static void suggestionsFound() {
        SpellScribe x = new SpellScribe();
        thrown("28 no word", INDEX, () -> x.suggestions(0));
        thrown("29 no word", INDEX, () -> x.suggestionsByAll(0));
        for (String word : new String[] {"ca", "ba", "cab", "b", "dbb", "hhhhh", "ab"}) {
            stem(x, word, 0, 0, 0, 0);
        }
        stem(x, "bb", 0, 0, 0, SpellScribe.NEVER);
        stem(x, "cb", 0, 0, 0, SpellScribe.JOINS_ONLY);
        stem(x, "ac", 0, 0, 0, SpellScribe.JOINABLE);
        write(x, "ba cb hhh");
        suggestions("28 of a right word", x, 0, "ab1 ca1 b2 ac3 cab3 dbb3");
        suggestions("28 of a wrong word", x, 1, "ca1 b2 ab2 ba2 cab2 ac3 dbb3");
        suggestions("28 at most four", x, 2, "hhhhh4");
        drafted(x, "bb").own(0, 0);
        suggestions("28 an own one", x, 2, "hhhhh4");
        suggestions("28 an own one", x, 0, "ab1 bb1 ca1 b2 ac3 cab3 dbb3");
        drafted(x, "ca").bar();
        suggestions("28 a barred one", x, 0, "ab1 bb1 b2 ac3 cab3 dbb3");
        thrown("28 below", INDEX, () -> x.suggestions(-1));
        thrown("28 behind", INDEX, () -> x.suggestions(3));
        thrown("29 below", INDEX, () -> x.suggestionsByAll(-1));
        thrown("29 behind", INDEX, () -> x.suggestionsByAll(3));
    }

    private static void costsOfChanges() {
        String[][] each = {{"ab", "bb", "1"}, {"ab", "ac", "1"}, {"ab", "cb", "2"}, {"ah", "aa", "2"},
            {"ab", "ba", "1"}, {"ad", "da", "1"}, {"ah", "hca", "-1"}, {"ach", "ha", "-1"}, {"ah", "hb", "4"}, {"adc", "da", "3"}, {"abc", "ac", "2"},
            {"ac", "abc", "2"}, {"adeh", "daeh", "1"}, {"adeh", "dahe", "2"}, {"adg", "gad", "4"},
            {"ad", "d", "2"}, {"ac", "bb", "2"}, {"ad", "ha", "4"}, {"aaaa", "aa", "4"}, {"aaaaa", "aa", "-1"},
            {"aaa", "hhh", "-1"}, {"ahah", "haha", "2"}, {"adad", "dadah", "4"}};
        for (String[] row : each) {
            SpellScribe x = new SpellScribe();
            stem(x, row[1], 0, 0, 0, 0);
            write(x, row[0]);
            int want = Integer.parseInt(row[2]);
            due("28 from " + row[0] + " to " + row[1], x.suggestions(0), want < 0 ? 0 : 1);
            due("29 from " + row[0] + " to " + row[1], x.suggestionsByAll(0), want < 0 ? 0 : 1);
            if (want < 0) {
                thrown("30 too dear", INDEX, () -> x.cost(0, 0));
            } else {
                due("30 from " + row[0] + " to " + row[1], x.cost(0, 0), want);
            }
            thrown("30 word below", INDEX, () -> x.cost(-1, 0));
            thrown("30 word behind", INDEX, () -> x.cost(1, 0));
            thrown("30 suggestion below", INDEX, () -> x.cost(0, -1));
            thrown("30 suggestion behind", INDEX, () -> x.cost(0, 1));
        }
    }

    private static void suggestedLetters() {
        SpellScribe x = new SpellScribe();
        stem(x, "abc", 0, 0, 0, 0);
        write(x, "acb");
        due("31 first", x.suggested(0, 0, 0), 'a');
        due("31 last", x.suggested(0, 0, 2), 'c');
        due("31 behind", x.suggested(0, 0, 3), ' ');
        due("31 far behind", x.suggested(0, 0, Integer.MAX_VALUE), ' ');
        thrown("31 place", INDEX, () -> x.suggested(0, 0, -1));
        thrown("31 suggestion", INDEX, () -> x.suggested(0, 1, 0));
        thrown("31 suggestion", INDEX, () -> x.suggested(0, -1, 0));
        thrown("31 word", INDEX, () -> x.suggested(1, 0, 0));
        thrown("31 word", INDEX, () -> x.suggested(-1, 0, 0));
    }

    private static void madeWords() {
        SpellScribe x = new SpellScribe();
        stem(x, "ab", 1, 0, 0, SpellScribe.NEVER);
        stem(x, "ab", 1, 1, 0, SpellScribe.JOINS_ONLY);
        due("32 alike", x.made(), 1);
        ending(x, 0, 0, "c");
        due("32 with an ending", x.made(), 2);
        stem(x, "abc", 1, 0, 0, SpellScribe.JOINABLE);
        due("32 one is there already", x.made(), 3);
        drafted(x, "abc").bar();
        drafted(x, "h").own(0, 0);
        due("32 neither barred nor own words count", x.made(), 3);
    }

    private static void asMuchAsThereCanBe() {
        mostMadeWords();
        mostWordsAndMistakes();
        mostSentences();
    }

    private static void mostMadeWords() {
        SpellScribe x = new SpellScribe();
        stem(x, "a", 63, 0, 0, 0);
        String[] endings = {"b", "c", "d", "e", "f", "g"};
        for (String ending : endings) {
            x.more(ending(x, 0, 0, ending), 1);
        }
        drafted(x, "h").rule(0, false, 0, ' ', NONE, NONE);
        drafted(x, "hh").rule(0, false, 0, ' ', NONE, NONE);
        due("32 as many as eight rules make", x.made(), 129);
        for (int i = 1; i < 12; i++) {
            stem(x, i < 7 ? "h" + endings[i - 1] + "a" : "g" + endings[i - 7] + "a", 63, 0, 0, 0);
        }
        due("32 as many as there can be", x.made(), 12 * 129);
        write(x, "gfagg hhgfabb hhhhhhhhhg");
        due("32 the last ones too", (x.isRight(0) ? 1 : 0) + (x.isRight(1) ? 2 : 0), 3);
        drafted(x, "hhhhhh").own(0, 0);
        drafted(x, "hhhhhhh").own(0, 0);
        for (char last = 'a'; last <= 'h'; last++) {
            drafted(x, "hhhhhhhhh" + last).own(0, 0);
        }
        due("28 the last one of all", x.suggested(2, 0, 9), 'f');
        due("28 the last one of all", x.suggested(2, 1, 9), 'h');
    }

    private static void mostWordsAndMistakes() {
        SpellScribe x = new SpellScribe();
        style(x, 0, "a", "h");
        for (int i = 0; i < 100; i++) {
            x.put(i, i % 2 == 0 ? 'h' : ' ');
        }
        due("25 two for each word", x.mistakes(), 100);
        due("26 the last one", x.mistakeKind(99), SpellScribe.STYLE);
        due("27 the last one", x.mistakeAt(99), 49);
        stem(x, "h", 0, 1, 0, 0);
        stem(x, "h", 0, 2, 1, 0);
        stem(x, "g", 0, 3, 1, 0);
        for (int kind = 1; kind < 3; kind++) {
            x.tell(kind, kind, SpellScribe.APART);
        }
        due("25 styles only", x.mistakes(), 50);
        due("23 turn about", x.reading(48) * 10 + x.reading(49), 25);
        x.take(98);
        x.put(98, 'g');
        due("25 but one", x.mistakes(), 49);
        x.tell(1, 3, SpellScribe.APART);
        due("23 from the last one on", x.reading(0), 5);
        x.tell(2, 3, SpellScribe.APART);
        due("23 one is broken anyway", x.reading(0), 2);
        due("25 the last one is broken", x.mistakeKind(49), SpellScribe.BROKEN);
        due("27 the last one is broken", x.mistakeAt(49), 49);
        due("24 the last one", x.split(49), NONE);
        due("28 the last one", x.suggestions(49), 1);
    }

    private static void mostSentences() {
        SpellScribe x = new SpellScribe();
        for (int i = 0; i < 99; i++) {
            due("14 no words", x.put(i, '.'), 0);
        }
        due("14 a hundredth sentence", x.put(99, 'a'), 1);
        due("15 it goes on, where one ended", x.take(0), 0);
        due("14 as long as can be", x.put(98, 'b'), 1);
        due("14 in front", x.take(98), 1);
        due("14 in front", x.put(0, 'a'), 1);
        due("19 two words", x.words(), 2);
        due("25 two are wrong", x.mistakes(), 2);
        due("27 the last one", x.mistakeAt(1), 1);
        rewrite(x, "");
        for (int i = 0; i < 100; i++) {
            x.put(0, '.');
        }
        due("15 a hundred points", x.take(50), 0);
    }

    private static void throwingChangesNothing() {
        SpellScribe x = new SpellScribe();
        stem(x, "ab", 1, 0, 0, 0);
        write(x, "ab ba");
        x.ignore(1);
        thrown("a wrong put", RANGE, () -> x.put(0, 'x'));
        thrown("a wrong take", INDEX, () -> x.take(5));
        thrown("a wrong ignore", STATE, () -> x.ignore(0));
        text("the text stays", x, "ab ba");
        due("the count stays", x.ignore(1), 2);
        x.letter('c');
        thrown("a wrong rule", RANGE, () -> x.rule(0, true, 3, ' ', 0, 0));
        thrown("a wrong own", RANGE, () -> x.own(9, 9));
        due("the draft stays", x.scrap(), 1);
        due("nothing was made", x.made(), 1);
    }
}
