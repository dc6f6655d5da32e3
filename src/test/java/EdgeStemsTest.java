import java.util.function.Supplier;

/** Sentences of the document on drafts, stems, rules and made words: promises 1 to 6 and 32. */
public final class EdgeStemsTest {
    private static final int NONE = SpellScribe.NONE;
    private static final char ANY = ' ';
    private static final String LETTERS = "abcdefgh";
    private static final String TEN = "abcdefghab";

    public static void main(String[] args) {
        constants();
        newObjects();
        drafts();
        stems();
        rules();
        usableRules();
        madeWords();
        kindsAndForms();
        moreFlags();
        howMany();
        Edge.end("EdgeStemsTest");
    }

    private static void constants() {
        Edge.holds("The constants", () -> {
            Edge.due("there is none", SpellScribe.NONE, -1);
            Edge.due("stems", SpellScribe.NEVER + " " + SpellScribe.JOINS_ONLY + " " + SpellScribe.JOINABLE, "1 2 4");
            Edge.due("two kinds", SpellScribe.FREE + " " + SpellScribe.AGREE + " " + SpellScribe.APART, "0 1 2");
            Edge.due("mistakes", SpellScribe.WRONG + " " + SpellScribe.BROKEN + " " + SpellScribe.STYLE, "0 1 2");
        });
    }

    private static void newObjects() {
        Edge.holds("Makes a checker without stems", () -> {
            Edge.due("made", new Desk().x().made(), 0);
            Edge.due("first stem", new Desk().draft("a").x().stem(0, 0, 0, 0), 0);
        });
        Edge.holds("Makes a checker without rules", () -> {
            Edge.thrown("more", Edge.INDEX, new Desk(), x -> x.more(0, 0));
            Edge.due("first rule", new Desk().draft("a").x().rule(0, true, 0, ANY, NONE, NONE), 0);
        });
        Edge.holds("Makes a checker without styles", () -> {
            Edge.due("first item", new Desk().x().item(0), 1);
            Edge.due("first style", new Desk().items("0").draft("a").x().style(0), 0);
        });
        Edge.holds("Makes a checker with an empty text", () -> {
            Edge.due("length", new Desk().x().length(), 0);
            Edge.due("words", new Desk().x().words(), 0);
            Edge.due("mistakes", new Desk().x().mistakes(), 0);
            Edge.due("correct", new Desk().x().correct(), 0);
            Edge.thrown("signAt", Edge.INDEX, new Desk(), x -> x.signAt(0));
        });
        Edge.holds("Makes a checker: nothing is drafted, own, barred or told", () -> {
            Edge.due("draft", new Desk().scrapped(), 0);
            Edge.due("own", new Desk().draft("a").x().own(0, 0), 1);
            Edge.due("barred", new Desk().draft("a").x().bar(), 1);
            Edge.due("told", new Desk().x().tell(0, 0, 0), SpellScribe.FREE);
            Edge.due("sound", new Desk().x().sound('a', 'c'), true);
        });
        Edge.holds("Makes a checker: one object knows nothing of another one", () -> {
            Desk first = new Desk().stems(0, "ab").own("ba", 0, 0).write("ab").draft("c");
            Desk second = new Desk().write("ab ba");
            Edge.due("words of the other", second.rights(), "--");
            Edge.due("draft of the other", second.scrapped(), 0);
            Edge.due("words of the first", first.rights(), "+");
        });
    }

    private static void drafts() {
        Edge.holds("The letters are a to h", () -> {
            for (int i = 0; i < LETTERS.length(); i++) {
                String letter = LETTERS.substring(i, i + 1);
                Edge.due(letter, new Desk().draft(letter).stem("", 0, 0, 0, 0).write(letter).rights(), "+");
            }
        });
        Edge.holds("Drafts a letter behind the others", () -> {
            Desk desk = new Desk().draft("ab").draft("ch").stem("", 0, 0, 0, 0).write("abch hcba");
            Edge.due("words", desk.rights(), "+-");
        });
        Edge.holds("Returns how many letters are drafted then", () -> {
            Desk desk = new Desk();
            for (int i = 0; i < TEN.length(); i++) {
                Edge.due("letter " + i, desk.x().letter(TEN.charAt(i)), i + 1);
            }
        });
        Edge.holds("Empties the draft; returns how many letters it had", () -> {
            for (int size = 0; size <= TEN.length(); size++) {
                Desk desk = new Desk().draft(TEN.substring(0, size));
                Edge.due("scrap of " + size, desk.x().scrap(), size);
                Edge.due("letter behind it", desk.x().letter('a'), 1);
                Edge.due("scrap of one", desk.x().scrap(), 1);
                Edge.due("scrap of none", desk.x().scrap(), 0);
            }
        });
        Edge.holds("A word is a row of 1 to 10 letters", () -> {
            for (String word : new String[] {"h", "ha", TEN.substring(1), TEN, "hhhhhhhhhh", "aaaaaaaaaa"}) {
                Edge.due("stem", new Desk().stems(0, word).write(word).rights(), "+");
                Edge.due("own word", new Desk().own(word, 0, 0).write(word).rights(), "+");
                Edge.due("barred", new Desk().stems(0, word).bar(word).write(word).rights(), "-");
                Edge.due("item", new Desk().style(0, "a", word).write(word).mistakes(), "W0 S0");
                Desk changed = new Desk().style(0, word, "b").own("b", 0, 0).own(word, 0, 0).write("b");
                Edge.due("change", changed.x().correct() + changed.text(), "1" + word);
            }
        });
        callsThatTakeTheDraft();
    }

    private static void callsThatTakeTheDraft() {
        Edge.holds("many calls take the draft as their word, and then it is empty", () -> {
            Desk desk = new Desk();
            desk.draft("abc").x().stem(0, 0, 0, 0);
            Edge.due("stem", desk.scrapped(), 0);
            desk.draft("abc").x().rule(0, true, 0, ANY, NONE, NONE);
            Edge.due("rule", desk.scrapped(), 0);
            desk.draft("abc").x().own(0, 0);
            Edge.due("own", desk.scrapped(), 0);
            desk.draft("abc").x().bar();
            Edge.due("bar", desk.scrapped(), 0);
            desk.draft("abc").x().item(NONE);
            Edge.due("item", desk.scrapped(), 0);
            desk.draft("abc").x().style(0);
            Edge.due("style", desk.scrapped(), 0);
        });
        Edge.holds("many calls take the draft as their word: these do not", () -> {
            Desk desk = new Desk().ending(0, 0, "h").write("ab").draft("abc");
            desk.more(0, 3).sound('a', 'c').tell(1, 1, 1).ignore(0, 1).items("3").write("c .").x().take(0);
            desk.x().correct();
            desk.x().mistakes();
            desk.x().suggestions(0);
            Edge.due("letter", desk.x().letter('d'), 4);
            Edge.due("draft", desk.stem("", 0, 0, 0, 0).rewrite("abcd").rights(), "+");
        });
    }

    private static void stems() {
        Edge.holds("Stems are numbered from 0, at most 12", () -> {
            Desk desk = new Desk();
            for (int i = 0; i < 12; i++) {
                String word = "h" + LETTERS.charAt(i % 8) + (i < 8 ? "" : "h");
                Edge.due("number", desk.draft(word).x().stem(0, 0, 0, 0), i);
                Edge.due("made", desk.x().made(), i + 1);
            }
            Edge.thrown("a 13th", Edge.STATE, desk.draft("a"), x -> x.stem(0, 0, 0, 0));
            Edge.due("first and last", desk.write("ha hdh").rights(), "++");
        });
        Edge.holds("flags: 0 to 63: the set of flags, flag f counting 2 to the power of f", () -> {
            for (int flags = 0; flags <= 63; flags++) {
                Desk desk = new Desk().stem("h", flags, 0, 0, 0);
                StringBuilder rights = new StringBuilder();
                for (int flag = 0; flag <= 5; flag++) {
                    desk.ending(flag, 0, LETTERS.substring(flag, flag + 1));
                    rights.append((flags >> flag) % 2 == 1 ? '+' : '-');
                }
                Edge.due("words of flags " + flags, desk.write("ha hb hc hd he hf").rights(), rights);
                Edge.due("made of flags " + flags, desk.x().made(), 1 + Integer.bitCount(flags));
            }
        });
        Edge.holds("a kind, 0 to 3, a form, 0 or 1", () -> {
            for (int kind = 0; kind <= 3; kind++) {
                for (int form = 0; form <= 1; form++) {
                    Desk desk = new Desk().stem("ab", 0, kind, form, 0).write("ab");
                    Edge.due("readings", desk.x().readings(0), 1 << (2 * kind + form));
                }
            }
        });
        Edge.holds("is: 0 to 7: what it is, a set of NEVER, JOINS_ONLY and JOINABLE", () -> {
            for (int is = 0; is <= 7; is++) {
                boolean isNever = (is & 1) != 0;
                boolean isOnlyJoined = (is & 2) != 0;
                boolean isJoined = isOnlyJoined || (is & 4) != 0;
                Desk desk = new Desk().stems(is, "ab").stems(4, "ghgh").write("ab abghgh ghghab ac");
                String joins = isJoined ? "++" : "--";
                Edge.due("words, " + is, desk.rights(), (isOnlyJoined ? "-" : "+") + joins + "-");
                Edge.due("suggestions, " + is, desk.suggestions(3), isNever || isOnlyJoined ? "" : "ab1");
            }
        });
    }

    private static void rules() {
        Edge.holds("Rules are numbered from 0, at most 8", () -> {
            Desk desk = new Desk().stem("hh", 1, 0, 0, 0);
            for (int i = 0; i < 8; i++) {
                String added = LETTERS.substring(i, i + 1);
                Edge.due("number", desk.draft(added).x().rule(0, i % 2 == 0, 0, ANY, NONE, NONE), i);
            }
            Edge.thrown("a ninth", Edge.STATE, desk.draft("a"), x -> x.rule(0, true, 0, ANY, NONE, NONE));
            Edge.due("first and last", desk.write("hha hhb bhha hhhg hhhh").rights(), "+-++-");
        });
        Edge.holds("is for beginnings or endings, strips some letters there, 0 to 2", () -> {
            String[] ended = {"abch", "abh", "ah"};
            String[] begun = {"habc", "hbc", "hc"};
            for (int strip = 0; strip <= 2; strip++) {
                Edge.due("ending", new Desk().stem("abc", 1, 0, 0, 0).ending(0, strip, "h").write(ended[strip]).rights(), "+");
                Edge.due("beginning", new Desk().stem("abc", 1, 0, 0, 0).beginning(0, strip, "h").write(begun[strip]).rights(), "+");
            }
        });
        Edge.holds("adds some, 0 to 4", () -> {
            for (int added = 0; added <= 4; added++) {
                String letters = "efgh".substring(0, added);
                Desk ended = new Desk().stem("abc", 1, 0, 0, 0).ending(0, 1, letters).write("ab" + letters);
                Edge.due("ending", ended.rights() + ended.x().made(), "+2");
                Desk begun = new Desk().stem("abc", 1, 0, 0, 0).beginning(0, 1, letters).write(letters + "bc");
                Edge.due("beginning", begun.rights() + begun.x().made(), "+2");
            }
        });
        Edge.holds("adds the drafted letters, at most 4, perhaps none", () -> {
            Edge.due("four", new Desk().draft("abcd").x().rule(0, true, 0, ANY, NONE, NONE), 0);
            Edge.thrown("five", Edge.STATE, new Desk().draft("abcde"), x -> x.rule(0, true, 0, ANY, NONE, NONE));
            Edge.thrown("five", Edge.STATE, new Desk().draft("abcde"), x -> x.rule(0, false, 2, ANY, NONE, NONE));
            Edge.due("none, one stripped", new Desk().x().rule(0, true, 1, ANY, NONE, NONE), 0);
            Edge.due("none, two stripped", new Desk().x().rule(0, false, 2, ANY, NONE, NONE), 0);
            Edge.thrown("none, none stripped", Edge.STATE, new Desk(), x -> x.rule(0, true, 0, ANY, NONE, NONE));
            Edge.due("one, none stripped", new Desk().draft("a").x().rule(0, true, 0, ANY, NONE, NONE), 0);
        });
        Edge.holds("flag: 0 to 5", () -> {
            for (int flag = 0; flag <= 5; flag++) {
                Desk desk = new Desk().stem("a", 1 << flag, 0, 0, 0).stem("b", 63 - (1 << flag), 0, 0, 0);
                desk.ending(flag, 0, "c").beginning(flag, 0, "d").write("ac bc da db dac");
                Edge.due("flag " + flag, desk.rights(), "+-+-+");
            }
        });
        Edge.holds("with: the letter with which the word has to begin or end; ' ' for any", EdgeStemsTest::letterAsked);
    }

    private static void letterAsked() {
        for (char with = 'a'; with <= 'h'; with++) {
            Desk ended = new Desk().rule(0, true, 0, with, "gg", NONE, NONE);
            Desk begun = new Desk().rule(0, false, 0, with, "gg", NONE, NONE);
            StringBuilder rights = new StringBuilder();
            for (char letter = 'a'; letter <= 'h'; letter++) {
                ended.stem("d" + letter, 1, 0, 0, 0).write("d" + letter + "gg ");
                begun.stem(letter + "d", 1, 0, 0, 0).write("gg" + letter + "d ");
                rights.append(letter == with ? '+' : '-');
            }
            Edge.due("ending with " + with, ended.rights(), rights);
            Edge.due("beginning with " + with, begun.rights(), rights);
        }
        Desk any = new Desk().ending(0, 0, "gg").beginning(0, 0, "gg");
        for (char letter = 'a'; letter <= 'h'; letter++) {
            any.stem("" + letter, 1, 0, 0, 0).write(letter + "gg gg" + letter + " ");
        }
        Edge.due("any", any.rights(), "++++++++++++++++");
        Desk stripped = new Desk().stem("ab", 1, 0, 0, 0).stem("ba", 1, 0, 0, 0).rule(0, true, 1, 'b', "c", NONE, NONE);
        Edge.due("what is stripped is asked, not what is left", stripped.write("ac bc").rights(), "+-");
        Desk second = new Desk().stem("ab", 1, 0, 0, 0).ending(0, 0, "c").rule(1, true, 0, 'c', "d", NONE, NONE);
        second.rule(1, true, 0, 'b', "e", NONE, NONE).more(0, 2);
        Edge.due("the second one asks what the first one made", second.write("abcd abce").rights(), "+-");
    }

    private static int madeOf(String word, boolean isEnd, int strip, String added) {
        return new Desk().stem(word, 1, 0, 0, 0).rule(0, isEnd, strip, ANY, added, NONE, NONE).x().made();
    }

    private static void usableRules() {
        Edge.holds("It can be used on a word that has more letters than it strips", () -> {
            for (int size = 1; size <= 4; size++) {
                for (int strip = 0; strip <= 2; strip++) {
                    String word = "abcd".substring(0, size);
                    int due = size > strip ? 2 : 1;
                    Edge.due("ending, " + size + " letters, strip " + strip, madeOf(word, true, strip, "h"), due);
                    Edge.due("beginning, " + size + " letters, strip " + strip, madeOf(word, false, strip, "h"), due);
                }
            }
        });
        Edge.holds("It can be used on a word that has more letters than it strips: behind another rule", () -> {
            Desk second = new Desk().stem("ab", 1, 0, 0, 0).ending(0, 1, "").ending(1, 1, "h").more(0, 2);
            Edge.due("an ending on one letter that is left", second.x().made(), 2);
            Desk usable = new Desk().stem("abc", 1, 0, 0, 0).ending(0, 1, "").ending(1, 1, "h").more(0, 2);
            Edge.due("an ending on two", usable.write("abc ab ah").rights() + usable.x().made(), "+++3");
            Desk begun = new Desk().stem("abc", 1, 0, 0, 0).ending(0, 2, "").beginning(0, 1, "h");
            Edge.due("a beginning on one letter that is left", begun.write("abc a hbc h").rights() + begun.x().made(), "+++-3");
            Desk grown = new Desk().stem("a", 1, 0, 0, 0).ending(0, 0, "b").beginning(0, 1, "h");
            Edge.due("a beginning on a word that has grown", grown.write("a ab hb h").rights() + grown.x().made(), "+++-3");
            Desk gone = new Desk().stem("a", 1, 0, 0, 0).ending(0, 1, "bb").ending(1, 1, "c").more(0, 2);
            Edge.due("no second one behind a first one that cannot be used", gone.x().made(), 1);
        });
        Edge.holds("of which one of at most 10 letters comes", () -> {
            for (int size = 5; size <= 10; size++) {
                for (int added = 1; added <= 4; added++) {
                    for (int strip = 0; strip <= 2; strip++) {
                        String word = "abcdefgabc".substring(0, size);
                        String letters = "hhhh".substring(0, added);
                        int due = size - strip + added <= 10 ? 2 : 1;
                        String what = size + " letters, less " + strip + ", and " + added;
                        Edge.due("ending, " + what, madeOf(word, true, strip, letters), due);
                        Edge.due("beginning, " + what, madeOf(word, false, strip, letters), due);
                    }
                }
            }
        });
        Edge.holds("of which one of at most 10 letters comes: behind another rule", () -> {
            Desk longer = new Desk().stem("ggggggggg", 1, 0, 0, 0).ending(0, 0, "a").ending(1, 0, "b").ending(1, 1, "cc");
            Edge.due("eleven by the second one", longer.ending(1, 1, "d").more(0, 2).x().made(), 3);
            Edge.due("ten by the second one", longer.write("ggggggggga gggggggggd").rights(), "++");
            Desk begun = new Desk().stem("ggggggggg", 1, 0, 0, 0).ending(0, 0, "a").beginning(0, 0, "b");
            Edge.due("eleven by the beginning", begun.x().made(), 3);
            Desk back = new Desk().stem("gggggggggg", 1, 0, 0, 0).ending(0, 0, "a").ending(1, 2, "b").more(0, 2);
            Edge.due("eleven by the first one, less by the second one", back.x().made(), 1);
            Desk begunBack = new Desk().stem("gggggggggg", 1, 0, 0, 0).ending(0, 0, "a").beginning(0, 2, "b");
            Edge.due("eleven by the ending, less by the beginning", begunBack.x().made(), 2);
        });
    }

    private static void madeWords() {
        Edge.holds("Made words are made of each stem like this: the stem itself", () -> {
            Desk desk = new Desk().stem("ab", 63, 0, 0, 0).stem("cd", 0, 0, 0, 0);
            Edge.due("words", desk.write("ab cd").rights() + desk.x().made(), "++2");
        });
        Edge.holds("what comes of each rule for endings whose flag the stem has", () -> {
            Desk desk = new Desk().stem("ab", 5, 0, 0, 0).ending(0, 0, "c").ending(1, 0, "d").ending(2, 0, "e");
            Edge.due("words", desk.write("abc abd abe abce").rights() + desk.x().made(), "+-+-3");
        });
        Edge.holds("each rule for endings whose flag the first rule has as one of its more flags", () -> {
            Supplier<Desk> made = () -> new Desk().stem("ab", 1, 0, 0, 0).ending(0, 0, "c").ending(1, 0, "d").ending(2, 0, "e");
            Edge.due("no more flags", made.get().x().made(), 2);
            Desk one = made.get().more(0, 2).write("abc abcd abd abce");
            Edge.due("one", one.rights() + one.x().made(), "++--3");
            Desk both = made.get().more(0, 6).write("abc abcd abe abce");
            Edge.due("two", both.rights() + both.x().made(), "++-+4");
            Desk own = made.get().more(0, 1).write("abc abcc abccc");
            Edge.due("its own flag", own.rights() + own.x().made(), "++-3");
        });
        Edge.holds("in two levels", () -> {
            Desk desk = new Desk().stem("ab", 1, 0, 0, 0).ending(0, 0, "c").ending(1, 0, "d").ending(2, 0, "e");
            desk.more(0, 2).more(1, 4).more(2, 63).write("abc abcd abcde abce");
            Edge.due("words", desk.rights() + desk.x().made(), "++--3");
        });
        Edge.holds("and of each of all these what comes by each rule for beginnings whose flag the stem has", () -> {
            Desk desk = new Desk().stem("ab", 1, 0, 0, 0).ending(0, 0, "c").ending(1, 0, "d");
            desk.beginning(0, 0, "f").beginning(1, 0, "g").more(0, 3);
            Edge.due("made", desk.x().made(), 8);
            desk.write("ab abc abcc abcd fab fabc fabcc fabcd gab gabcd ffab gfab");
            Edge.due("words", desk.rights(), "++++++++----");
        });
        Edge.holds("A made word is what the stem is otherwise", () -> {
            for (int is = 0; is <= 7; is++) {
                Desk desk = new Desk().stem("ab", 1, 0, 0, is).ending(0, 0, "c").beginning(0, 0, "f").ending(1, 0, "d");
                desk.more(0, 2).stem("ghgh", 0, 0, 0, 4).write("ab abc fab fabcd fabcdghgh ghghabc eabcd");
                String right = (is & 2) != 0 ? "-" : "+";
                String joined = (is & 6) != 0 ? "+" : "-";
                Edge.due("words, " + is, desk.rights(), right.repeat(4) + joined.repeat(2) + "-");
                Edge.due("suggested, " + is, desk.x().suggestions(6) > 0, (is & 3) == 0);
            }
        });
    }

    private static void kindsAndForms() {
        Edge.holds("or, each by itself, that told by the last of its rules that tells one", () -> {
            for (int told = 0; told < 64; told++) {
                int[] kinds = {0, told % 2 != 0 ? 1 : NONE, told / 2 % 2 != 0 ? 2 : NONE, told / 4 % 2 != 0 ? 3 : NONE};
                int[] forms = {0, told / 8 % 2 != 0 ? 1 : NONE, told / 16 % 2 != 0 ? 0 : NONE, told / 32 != 0 ? 1 : NONE};
                Desk desk = new Desk().stem("h", 1, kinds[0], forms[0], 0);
                desk.rule(0, true, 0, ANY, "a", kinds[1], forms[1]).rule(1, true, 0, ANY, "b", kinds[2], forms[2]);
                desk.rule(0, false, 0, ANY, "c", kinds[3], forms[3]).more(0, 2).write("h ha hab ch cha chab");
                int[][] uses = {{0}, {0, 1}, {0, 1, 2}, {0, 3}, {0, 1, 3}, {0, 1, 2, 3}};
                StringBuilder due = new StringBuilder();
                for (int[] used : uses) {
                    due.append(due.length() == 0 ? "" : ", ").append(lastTold(kinds, used)).append(lastTold(forms, used));
                }
                Edge.due("readings, told " + told, desk.readings(), due);
            }
        });
        Edge.holds("kind: 0 to 3; NONE for none; form: 0 or 1; NONE for none", () -> {
            for (int kind = NONE; kind <= 3; kind++) {
                for (int form = NONE; form <= 1; form++) {
                    Desk desk = new Desk().stem("h", 1, 1, 1, 0).rule(0, true, 0, ANY, "a", kind, form).write("ha");
                    Edge.due("reading", desk.readings(), (kind == NONE ? 1 : kind) + "" + (form == NONE ? 1 : form));
                }
            }
        });
    }

    private static int lastTold(int[] told, int[] used) {
        int last = NONE;
        for (int rule : used) {
            last = told[rule] == NONE ? last : told[rule];
        }
        return last;
    }

    private static void moreFlags() {
        Edge.holds("Gives a rule more flags, in place of those it had; returns the flags before", () -> {
            Desk desk = new Desk().stem("h", 1, 0, 0, 0).ending(0, 0, "h");
            for (int flag = 1; flag <= 5; flag++) {
                desk.ending(flag, 0, LETTERS.substring(flag, flag + 1));
            }
            int before = 0;
            for (int flags = 0; flags <= 63; flags++) {
                Edge.due("flags before " + flags, desk.x().more(0, flags), before);
                Edge.due("made by " + flags, desk.x().made(), 2 + Integer.bitCount(flags));
                before = flags;
            }
        });
        Edge.holds("rule: its number", () -> {
            Desk desk = new Desk().stem("h", 1, 0, 0, 0);
            for (int i = 0; i < 8; i++) {
                desk.ending(i == 7 ? 0 : 5, 0, LETTERS.substring(i, i + 1));
            }
            Edge.due("more of the last one", desk.x().more(7, 32), 0);
            Edge.due("words", desk.write("hh hha hhg ha").rights() + desk.x().made(), "+++-9");
            Edge.due("more of the first one", desk.x().more(0, 1), 0);
            Edge.due("made", desk.x().made(), 9);
            Edge.due("flags stay at each rule", desk.x().more(7, 0) + " " + desk.x().more(0, 0), "32 1");
        });
        Edge.holds("one for endings may have more flags", () -> {
            Desk desk = new Desk().ending(0, 0, "a").beginning(0, 0, "a");
            Edge.due("for endings", desk.x().more(0, 63), 0);
            Edge.thrown("for beginnings", Edge.STATE, desk, x -> x.more(1, 63));
            Edge.thrown("for beginnings, no flags", Edge.STATE, desk, x -> x.more(1, 0));
        });
    }

    private static void howMany() {
        Edge.holds("Returns how many unlike words made words have", () -> {
            Edge.due("none", new Desk().x().made(), 0);
            Edge.due("alike", new Desk().stems(0, "ab", "ab", "ab").x().made(), 1);
            Edge.due("unlike", new Desk().stems(0, "ab", "ba", "a", "aa").x().made(), 4);
            Edge.due("alike by rules", new Desk().stem("ab", 1, 0, 0, 0).stem("abc", 0, 3, 1, 7).ending(0, 0, "c").x().made(), 2);
            Edge.due("a rule that makes what was there", new Desk().stem("ab", 1, 0, 0, 0).ending(0, 1, "b").x().made(), 1);
            Edge.due("never suggested, for joins", new Desk().stems(1, "a").stems(2, "bb").stems(4, "cc").x().made(), 3);
            Edge.due("own, barred, joins", new Desk().stems(4, "ab", "cd").own("h", 0, 0).bar("ab").write("abcd").x().made(), 2);
        });
        Edge.holds("Returns how many unlike words made words have: as many as there can be", () -> {
            Desk desk = new Desk();
            for (String added : new String[] {"b", "c", "d", "e", "f", "g"}) {
                desk.ending(0, 0, added);
            }
            desk.beginning(0, 0, "h").beginning(0, 0, "hh");
            for (int rule = 0; rule < 6; rule++) {
                desk.more(rule, 1);
            }
            for (int i = 0; i < 12; i++) {
                desk.stem((i < 6 ? "h" : "g") + "bcdefg".charAt(i % 6) + "a", 1, 0, 0, 0);
                Edge.due("made of " + i, desk.x().made(), 129 * (i + 1));
            }
            Edge.due("the first and the last one", desk.write("hba hhggagg hhggaggg").rights(), "++-");
        });
    }
}
