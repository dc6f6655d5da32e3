import java.util.List;
import java.util.function.Consumer;

/** Sentences of the document on which words are right, and how they are read: promises 8 to 10, 21, 22 and 24. */
public final class EdgeRightTest {
    private static final int NEVER = SpellScribe.NEVER;
    private static final int JOINS_ONLY = SpellScribe.JOINS_ONLY;
    private static final int JOINABLE = SpellScribe.JOINABLE;
    private static final String TEN = "abcdefghab";

    public static void main(String[] args) {
        ownWords();
        barredWords();
        ignoredWords();
        learnedWords();
        rightWords();
        joins();
        joinsInTheirBounds();
        readings();
        splits();
        lastCalls();
        Edge.end("EdgeRightTest");
    }

    /** Unlike words of two letters. */
    private static String word(int number) {
        return "" + "abcdefgh".charAt(number / 8) + "abcdefgh".charAt(number % 8);
    }

    private static Desk withOwn(int count) {
        Desk desk = new Desk();
        for (int i = 0; i < count; i++) {
            desk.own(word(i), 0, 0);
        }
        return desk;
    }

    private static Desk withBarred(int count) {
        Desk desk = new Desk();
        for (int i = 0; i < count; i++) {
            desk.bar(word(i));
        }
        return desk;
    }

    private static void ownWords() {
        Edge.holds("Returns how many own words there are then", () -> {
            Desk desk = new Desk();
            for (int i = 0; i < 10; i++) {
                Edge.due("own word " + i, desk.draft(word(i)).x().own(0, 0), i + 1);
            }
            Edge.due("all of them", desk.write("aa ab ac ad ae af ag ah ba bb bc").rights(), "++++++++++-");
        });
        Edge.holds("or there are 10 others", () -> {
            Edge.thrown("an 11th", Edge.STATE, withOwn(10).draft("hh"), x -> x.own(0, 0));
            Edge.due("a tenth", withOwn(9).draft("hh").x().own(0, 0), 10);
            Edge.due("the first one of ten", withOwn(10).draft(word(0)).x().own(0, 0), 10);
            Edge.due("the last one of ten", withOwn(10).draft(word(9)).x().own(0, 0), 10);
            Edge.due("behind one that is barred", withOwn(10).bar(word(3)).draft("hh").x().own(0, 0), 10);
            Edge.thrown("the barred one itself", Edge.STATE,
                withOwn(10).bar(word(3)).own("hh", 0, 0).draft(word(3)), x -> x.own(0, 0));
        });
        Edge.holds("kind: 0 to 3, form: 0 or 1", () -> {
            for (int kind = 0; kind <= 3; kind++) {
                for (int form = 0; form <= 1; form++) {
                    Desk desk = new Desk().own("ab", kind, form).write("ab");
                    Edge.due("readings", desk.x().readings(0), 1 << (2 * kind + form));
                }
            }
        });
        Edge.holds("Makes the drafted word an own one, in place of a like one", () -> {
            Desk desk = new Desk().own("ab", 1, 1).own("ba", 3, 0).write("ab ba");
            Edge.due("own words", desk.draft("ab").x().own(2, 0), 2);
            Edge.due("readings", desk.readings(), "20, 30");
            Edge.due("own words", desk.draft("ab").x().own(2, 0), 2);
            Edge.due("suggestions", desk.suggestions(1), "ab1");
        });
        Edge.holds("it is barred no more", () -> {
            Desk desk = new Desk().stem("ab", 0, 1, 0, 0).bar("ab", "cd").write("ab cd");
            Edge.due("barred", desk.rights(), "--");
            Edge.due("own words", desk.draft("ab").x().own(2, 1), 1);
            Edge.due("as made and as own word", desk.readings(), "10 21, -");
            Edge.due("barred then", desk.draft("h").x().bar(), 2);
            Edge.due("room for more", withBarred(10).own(word(4), 0, 0).draft("hh").x().bar(), 10);
        });
    }

    private static void barredWords() {
        Edge.holds("Returns how many words are barred then", () -> {
            Desk desk = new Desk();
            for (int i = 0; i < 10; i++) {
                Edge.due("barred word " + i, desk.draft(word(i)).x().bar(), i + 1);
            }
        });
        Edge.holds("or 10 others are barred", () -> {
            Edge.thrown("an 11th", Edge.STATE, withBarred(10).draft("hh"), x -> x.bar());
            Edge.due("a tenth", withBarred(9).draft("hh").x().bar(), 10);
            Edge.due("the first one of ten", withBarred(10).draft(word(0)).x().bar(), 10);
            Edge.due("the last one of ten", withBarred(10).draft(word(9)).x().bar(), 10);
            Edge.due("a like one", withBarred(4).draft(word(2)).x().bar(), 4);
        });
        Edge.holds("Bars the drafted word", () -> {
            Desk desk = new Desk().stems(JOINABLE, "ab", "cd").own("hh", 0, 0).bar("ab", "abcd", "hh");
            desk.write("ab cd abcd cdab hh ba hg");
            Edge.due("made, join and own word", desk.rights(), "-+-+---");
            Edge.due("barred words are not suggested", desk.suggestions(5) + "," + desk.suggestions(6), "cd3,cd4");
        });
        Edge.holds("it is no own word any more", () -> {
            Desk desk = withOwn(3).bar("ab").write("aa ab ac");
            Edge.due("words", desk.rights(), "+-+");
            Edge.due("own words", desk.draft("ad").x().own(0, 0), 3);
            Edge.due("own words with it", desk.draft("ab").x().own(1, 0), 4);
            Edge.due("its new reading only", desk.readings(), "00, 10, 00");
        });
        Edge.holds("Its parts may be barred; it must not", () -> {
            Desk desk = new Desk().stems(JOINABLE, "ab", "cd", "ef").bar("ab", "cd", "ef").write("abcd abcdef cdab ab");
            Edge.due("parts", desk.rights(), "+++-");
            Edge.due("two barred of them", desk.bar("abcd", "abcdef").rights(), "--+-");
        });
    }

    private static void ignoredWords() {
        Edge.holds("when a word like it has been ignored three times in all, or more, it becomes an own word", () -> {
            Desk desk = new Desk().write("ab ba");
            Edge.due("first", desk.x().ignore(0), 1);
            Edge.due("second", desk.x().ignore(0), 2);
            Edge.due("not yet right", desk.rights(), "--");
            Edge.due("third", desk.x().ignore(0), 0);
            Edge.due("right", desk.rights(), "+-");
            Edge.due("own words", desk.draft("hh").x().own(0, 0), 2);
        });
        Edge.holds("a word like it: wherever it stands, and no other one", () -> {
            Desk desk = new Desk().write("ab.ab <>ab ba abb a");
            Edge.due("ab", desk.x().ignore(2), 1);
            Edge.due("ba", desk.x().ignore(3), 1);
            Edge.due("ab", desk.x().ignore(0), 2);
            Edge.due("abb", desk.x().ignore(4), 1);
            Edge.due("a", desk.x().ignore(5), 1);
            Edge.due("none is right", desk.rights(), "------");
            Edge.due("ab", desk.x().ignore(1), 0);
            Edge.due("all like it are right", desk.rights(), "+++---");
            Edge.due("ba", desk.x().ignore(3), 2);
        });
        Edge.holds("a word like it: also when the text has become another one in between", () -> {
            Desk desk = new Desk().write("ab").ignore(0, 2).rewrite("c ab");
            Edge.due("third", desk.x().ignore(1), 0);
        });
        Edge.holds("of the kind 0 and the form 0", () -> {
            Desk desk = new Desk().stem("ab", 1, 3, 1, 0).write("abc").ignore(0, 3);
            Edge.due("alone", desk.readings(), "00");
            Edge.due("with those of a made word", desk.ending(0, 0, "c").readings(), "00 31");
        });
        Edge.holds("if there are fewer than 10", () -> {
            Desk nine = withOwn(9).write("hh").ignore(0, 2);
            Edge.due("it becomes the tenth", nine.x().ignore(0), 0);
            Edge.thrown("no other one has room", Edge.STATE, nine.draft("hg"), x -> x.own(0, 0));
            Desk ten = withOwn(10).write("hh");
            for (int times = 1; times <= 6; times++) {
                Edge.due("with ten", ten.x().ignore(0), times);
            }
            Edge.due("not right", ten.rights(), "-");
            Edge.due("not right when there is room", ten.bar(word(0)).rights(), "-");
            Edge.due("more than three times, with room", ten.x().ignore(0), 0);
            Edge.due("right", ten.rights(), "+");
        });
        Edge.holds("Returns how many times it has been ignored; 0 if it is an own word then", () -> {
            Desk desk = withOwn(10).write("hh hg hf");
            int times = 0;
            while (desk.callsLeft() > 3) {
                times++;
                Edge.due("with ten", desk.x().ignore(0), times);
            }
            Edge.due("another one", desk.x().ignore(1), 1);
        });
    }

    private static void learnedWords() {
        Edge.holds("Ignores a word of the text that is not right", () -> {
            Desk desk = new Desk().stems(JOINABLE, "ab", "cd").own("hh", 0, 0).write("ab abcd hh ba");
            for (int i = 0; i < 3; i++) {
                int word = i;
                Edge.thrown("right", Edge.STATE, desk, x -> x.ignore(word));
            }
            Edge.due("not right", desk.x().ignore(3), 1);
        });
        Edge.holds("if it is right: also one that has been ignored before", () -> {
            Desk desk = new Desk().stem("ab", 1, 0, 0, 0).ending(0, 0, "c").ending(1, 0, "d").write("abcd").ignore(0, 2);
            desk.more(0, 2);
            Edge.thrown("it is made", Edge.STATE, desk, x -> x.ignore(0));
            desk.more(0, 0);
            Edge.due("it is made no more, and the third time comes", desk.x().ignore(0), 0);
        });
        Edge.holds("has more than 10 letters", () -> {
            Desk desk = new Desk().write(TEN + " " + TEN + "c " + TEN + TEN);
            Edge.thrown("eleven", Edge.STATE, desk, x -> x.ignore(1));
            Edge.thrown("twenty", Edge.STATE, desk, x -> x.ignore(2));
            desk.ignore(0, 2);
            Edge.due("ten", desk.x().ignore(0), 0);
            Edge.due("words", desk.rights(), "+--");
        });
        Edge.holds("or is barred", () -> {
            Desk desk = new Desk().stems(0, "ab").bar("ab", "ba").write("ab ba bb");
            Edge.thrown("made and barred", Edge.STATE, desk, x -> x.ignore(0));
            Edge.thrown("barred", Edge.STATE, desk, x -> x.ignore(1));
            Edge.due("not barred", desk.x().ignore(2), 1);
            desk.ignore(2, 1).bar("bb");
            Edge.thrown("barred behind two times", Edge.STATE, desk, x -> x.ignore(2));
        });
        Edge.holds("then it was never ignored", () -> {
            Desk desk = new Desk().write("ab ba").ignore(0, 3);
            Edge.thrown("it is right", Edge.STATE, desk, x -> x.ignore(0));
            Edge.thrown("it is barred", Edge.STATE, desk.bar("ab"), x -> x.ignore(0));
            Edge.due("own again", desk.own("ab", 0, 1).readings(), "01, -");
            Edge.due("another one", desk.x().ignore(1), 1);
        });
    }

    private static void rightWords() {
        Edge.holds("A word is right, if it is not barred, and is an own word, or that of a made word, or a join", () -> {
            for (int by = 0; by < 16; by++) {
                boolean isOwn = by % 2 != 0;
                boolean isMade = by / 2 % 2 != 0;
                boolean isJoin = by / 4 % 2 != 0;
                boolean isBarred = by / 8 != 0 && !isOwn;
                Desk desk = new Desk();
                if (isBarred) {
                    desk.bar("abcd");
                }
                if (isOwn) {
                    desk.own("abcd", 0, 0);
                }
                if (isMade) {
                    desk.stems(0, "abcd");
                }
                desk.stems(isJoin ? JOINABLE : 0, "ab", "cd").write("abcd");
                Edge.due("by " + by, desk.rights(), !isBarred && (isOwn || isMade || isJoin) ? "+" : "-");
            }
        });
        Edge.holds("of a made word that is not for JOINS_ONLY", () -> {
            Edge.due("only that", new Desk().stems(JOINS_ONLY, "ab").write("ab").rights(), "-");
            Edge.due("JOINABLE as well", new Desk().stems(JOINS_ONLY | JOINABLE, "ab").write("ab").rights(), "-");
            Edge.due("NEVER suggested", new Desk().stems(NEVER, "ab").write("ab").rights(), "+");
            Edge.due("by another stem", new Desk().stems(JOINS_ONLY, "ab").stems(0, "ab").write("ab").rights(), "+");
            Edge.due("an own word", new Desk().stems(JOINS_ONLY, "ab").own("ab", 0, 0).write("ab").rights(), "+");
        });
        Edge.holds("of one that has more than 10 letters none is right", () -> {
            Desk desk = new Desk().stems(JOINABLE, TEN, "abcde", "abcdef").own(TEN, 0, 0);
            desk.write(TEN + " " + TEN + "a abcdeabcde abcdeabcdef abcdefabcdef " + TEN + TEN);
            Edge.due("words", desk.rights(), "+-+---");
        });
        Edge.holds("A word that is not right is a mistake", () -> {
            Desk desk = new Desk().stems(0, "ab").write("ab ba <ba> cc").own("cc", 0, 0);
            Edge.due("mistakes", desk.mistakes(), "W1");
            Edge.due("barred ones, too", desk.bar("ab").mistakes(), "W0 W1");
        });
    }

    private static void joins() {
        Edge.holds("A join is a row of 2 or 3 words", () -> {
            Desk desk = new Desk().stems(JOINS_ONLY, "ab", "cd", "ef", "gh").write("ab abcd abcdef abcdefgh ghefcdab ghefcd");
            Edge.due("one, two, three, four", desk.rights(), "-++--+");
            Desk one = new Desk().stems(JOINABLE, "ab").write("ab abab ababab abababab");
            Edge.due("the same again and again", one.rights(), "+++-");
        });
        Edge.holds("each of 2 letters or more", () -> {
            Desk desk = new Desk().stems(JOINABLE, "h", "ab", "cd").write("hab abh habcd abhcd abcdh abcd");
            Edge.due("one letter in each place", desk.rights(), "-----+");
            Desk three = new Desk().stems(JOINABLE, "hh", "ab", "cd").write("hhab abhh hhabcd abhhcd abcdhh");
            Edge.due("two letters in each place", three.rights(), "+++++");
        });
        Edge.holds("each that of a made word that is JOINABLE or for JOINS_ONLY", () -> {
            Desk desk = new Desk().stems(JOINABLE, "ab").stems(JOINS_ONLY, "cd").stems(0, "ef").stems(NEVER, "gh");
            desk.stems(NEVER | JOINABLE, "hg").write("abcd cdab cdcd efab abef ghab abgh hgab abhg abefcd abghcd abhgcd efabcd abcdef");
            Edge.due("words", desk.rights(), "+++----++--+--");
            Desk own = new Desk().own("ab", 0, 0).stems(JOINABLE, "cd").write("abcd cdab cdabcd");
            Edge.due("own words are none", own.rights(), "---");
            Desk made = new Desk().stem("ab", 1, 0, 0, JOINABLE).ending(0, 0, "c").beginning(0, 0, "h").stems(JOINABLE, "de");
            Edge.due("made by rules", made.write("abcde habcde deabc dehab hde").rights(), "++++-");
        });
        Edge.holds("of which no one ends with the letter with which the next one begins", () -> {
            Desk desk = new Desk().stems(JOINABLE, "ab", "bc", "cd", "dh");
            desk.write("abbc abcd abcdbc abcddh abbcdh bccd cdab abdhbc bcabdh abbccd");
            Edge.due("words", desk.rights(), "-++---+++-");
            Desk several = new Desk().stems(JOINABLE, "ab", "bcd", "abb", "cd").write("abbcd");
            Edge.due("another border will do", several.rights(), "+");
        });
        Edge.holds("The border's like letters: at each place of a word of ten letters", () -> {
            for (int border = 2; border <= 8; border++) {
                String first = "gfgfgfgfgf".substring(0, border);
                String last = "abababab".substring(0, 10 - border);
                Desk desk = new Desk().stems(JOINABLE, first, last, first.charAt(border - 1) + last.substring(1));
                Edge.due("border " + border, desk.write(first + last).rights(), "+");
                desk.rewrite(first + first.charAt(border - 1) + last.substring(1));
                Edge.due("border of like letters " + border, desk.rights(), "-");
            }
        });
    }

    private static void joinsInTheirBounds() {
        Edge.holds("it has 10 letters at most", () -> {
            Desk two = new Desk().stems(JOINABLE, "ab", "cdcdcd", "abcde", "gfgfgfgf", "cdcdcdcdc");
            two.write("abcdeabcde abgfgfgfgf gfgfgfgfab abcdcdcdcdc cdcdcdcdcab");
            Edge.due("of two", two.rights(), "+++--");
            Desk three = new Desk().stems(JOINABLE, "abc", "def", "ghab", "efgh");
            three.write("abcdefghab abcghabdef ghababcdef abcghabefgh ghabefghabc abcdefabc");
            Edge.due("of three", three.rights(), "+++--+");
            Desk ends = new Desk().stems(JOINABLE, "ab", "cd", "ghghgh", "ghghghg").write("abcdghghgh abghghghcd ghghghabcd abcdghghghg");
            Edge.due("of three, two of them of two letters", ends.rights(), "+++-");
        });
        Edge.holds("It has the readings of those made words like its last word that are JOINABLE or for JOINS_ONLY", () -> {
            Desk desk = new Desk().stem("ab", 0, 0, 0, JOINABLE).stem("cd", 0, 1, 1, JOINABLE).stem("cd", 0, 2, 0, JOINS_ONLY);
            desk.stem("cd", 0, 3, 1, 0).stem("cd", 0, 0, 1, NEVER).stem("ef", 0, 3, 0, JOINABLE | NEVER);
            desk.write("abcd cdab efabcd cdabef ab cd");
            Edge.due("readings", desk.readings(), "11 20, 00, 11 20, 30, 00, 01 11 31");
        });
        Edge.holds("and of all such joins, each once", () -> {
            Desk desk = new Desk().stem("ab", 0, 0, 0, JOINABLE).stem("cdef", 0, 0, 1, JOINABLE).stem("abcd", 0, 1, 0, JOINABLE);
            desk.stem("ef", 0, 2, 0, JOINABLE).stem("cd", 0, 3, 0, JOINABLE).write("abcdef abcd");
            Edge.due("two and three words", desk.readings(), "01 20, 10 30");
            desk.own("abcdef", 3, 1).stem("abcdef", 0, 1, 1, 0);
            Edge.due("of the own word and of the made word, too", desk.readings(), "01 11 20 31, 10 30");
            Edge.due("barred", desk.bar("abcdef").readings(), "-, 10 30");
        });
    }

    private static void readings() {
        Edge.holds("the kind k with the form f counts 2 to the power of twice k and f, together", () -> {
            Desk desk = new Desk().write("ab");
            int all = 0;
            for (int kind = 0; kind <= 3; kind++) {
                for (int form = 0; form <= 1; form++) {
                    all |= 1 << (2 * kind + form);
                    Edge.due("set", desk.stem("ab", 0, kind, form, 0).x().readings(0), all);
                }
            }
            Edge.due("all of them", all, 255);
            Edge.due("own one like one", desk.own("ab", 3, 1).x().readings(0), 255);
            Edge.due("none of a barred one", desk.bar("ab").x().readings(0), 0);
        });
        Edge.holds("Its readings are those of the own word, of such made words: not of those for JOINS_ONLY", () -> {
            Desk desk = new Desk().stem("ab", 0, 0, 1, 0).stem("ab", 0, 1, 1, JOINS_ONLY).stem("ab", 0, 2, 1, JOINABLE);
            desk.stem("ab", 0, 3, 1, NEVER).write("ab ba");
            Edge.due("readings", desk.readings(), "01 21 31, -");
            Edge.due("with an own word", desk.own("ab", 1, 0).readings(), "01 10 21 31, -");
        });
        Edge.holds("Its readings, each a kind and a form, each once", () -> {
            Desk desk = new Desk().stem("ab", 0, 1, 1, 0).stem("ab", 0, 1, 1, JOINABLE).own("ab", 1, 1).write("ab");
            Edge.due("readings", desk.readings(), "11");
        });
        Edge.holds("readings: of a word that is not right there are none", () -> {
            Desk desk = new Desk().stems(JOINS_ONLY, "ab").stems(0, "abcdeabcde").write("ab ba abcdeabcdea");
            Edge.due("readings", desk.readings(), "-, -, -");
        });
    }

    private static void splits() {
        Edge.holds("A word can be split behind some of its letters, if both parts are right", () -> {
            Desk desk = new Desk().stems(0, "a", "b", "abc", "cc").write("a ab ba abb ccc abcb bcc babc acb");
            Edge.due("splits", desk.splits(), "- 1 1 - - 3 1 1 -");
        });
        Edge.holds("ahead of the first place at which it can be split", () -> {
            Desk desk = new Desk().stems(0, "a", "aa", "aaa", "b").write("aa aaa aaaa aaab aab ab aaaaa aaaaaa aaaaaaa");
            Edge.due("splits", desk.splits(), "1 1 1 3 2 1 2 3 -");
        });
        Edge.holds("if both parts are right: by whatever they are right", () -> {
            Desk desk = new Desk().stems(JOINS_ONLY, "ab").stems(NEVER, "cd").stems(JOINABLE, "ef").own("gh", 0, 0);
            desk.write("abcd cdab cdcd cdef efgh ghcd cdefef cdabef ghabef efefgh");
            Edge.due("splits", desk.splits(), "- - 2 2 2 2 2 2 2 4");
            desk.bar("cd");
            Edge.due("no barred part", desk.splits(), "- - - - 2 - - - 2 4");
            desk.bar("abef").own("cdab", 0, 0);
            Edge.due("a join that is barred, an own word", desk.splits(), "- - - - 2 - - 4 - 4");
        });
        Edge.holds("split: of words of more than 10 letters, too", () -> {
            String ten = "gggggggggg";
            Desk desk = new Desk().stems(0, "h", ten, "b").write("h" + ten + " " + ten + "h b" + ten + "h " + ten + ten + " " + ten + "hb");
            Edge.due("splits", desk.splits(), "1 10 - 10 -");
        });
        Edge.holds("NONE if it cannot be split: a right word may, another one may not", () -> {
            Desk desk = new Desk().stems(0, "a", "ab", "h").write("ab a h ha hb").own("b", 0, 0);
            Edge.due("splits", desk.splits(), "1 - - 1 1");
            Edge.due("rights", desk.rights(), "+++--");
            Edge.due("nothing is right", new Desk().write("ab a").splits(), "- -");
        });
    }

    private static void lastCalls() {
        Edge.holds("An object is used for at most 512 calls after it has been made", () -> {
            Desk desk = new Desk().stems(0, "ab").write("ab ba");
            while (desk.callsLeft() > 3) {
                desk.x().letter('a');
                desk.x().scrap();
            }
            while (desk.callsLeft() > 2) {
                desk.x().made();
            }
            Edge.due("the last calls but one", desk.x().ignore(1), 1);
            Edge.due("the 512th call", desk.x().mistakes(), 1);
        });
        Edge.holds("An object is used for at most 512 calls: as many unlike ignored words as that makes room for", () -> {
            Desk desk = new Desk().write("aaa");
            int[] letters = new int[3];
            int[] steps = {1, 1, 1};
            while (desk.callsLeft() > 6) {
                Edge.due("an unlike word", desk.x().ignore(0), 1);
                int place = 0;
                while (letters[place] + steps[place] < 0 || letters[place] + steps[place] > 7) {
                    steps[place] = -steps[place];
                    place++;
                }
                letters[place] += steps[place];
                desk.x().put(place, (char) ('a' + letters[place]));
                desk.x().take(place + 1);
            }
            desk.ignore(0, 1);
            Edge.due("the last one again", desk.x().ignore(0), 2);
        });
        questions();
    }

    private static Desk asked() {
        Desk desk = new Desk().stem("ab", 1, 0, 0, JOINABLE).stem("cd", 2, 1, 1, 0).ending(0, 0, "g").ending(1, 0, "h");
        return desk.own("gg", 1, 1).bar("gb").items("0").tell(0, 1, SpellScribe.AGREE).write("ba abg.ab cd cdh gb gg cg.");
    }

    private static String answers(Desk desk) {
        StringBuilder answers = new StringBuilder();
        int words = desk.x().words();
        for (int i = 0; i < words; i++) {
            int word = i;
            answers.append(' ').append(desk.x().suggestions(word)).append(Edge.outcome(desk.x(), x -> x.cost(word, 0)));
        }
        return answers + desk.readings() + desk.read() + desk.splits() + desk.mistakes() + desk.x().made();
    }

    /** What is kept of an answer must not outlive a change. */
    private static void questions() {
        List<Consumer<Desk>> changes = List.of(
            desk -> desk.stem("cg", 0, 2, 0, 0), desk -> desk.stem("ba", 0, 2, 0, JOINABLE), desk -> desk.ending(1, 0, "a"),
            desk -> desk.more(0, 2), desk -> desk.sound('b', 'g'), desk -> desk.own("ba", 3, 0), desk -> desk.bar("ab"),
            desk -> desk.ignore(0, 3), desk -> desk.tell(0, 1, SpellScribe.FREE), desk -> desk.draft("cg").x().style(0),
            desk -> desk.x().put(0, 'a'), desk -> desk.x().put(3, '<'), desk -> desk.x().take(0), desk -> desk.x().correct());
        Edge.holds("Questions change nothing: not what is answered behind any change", () -> {
            for (int i = 0; i < changes.size(); i++) {
                Desk before = asked();
                String first = answers(before);
                changes.get(i).accept(before);
                Desk notBefore = asked();
                changes.get(i).accept(notBefore);
                String due = answers(notBefore);
                Edge.due("change " + i, answers(before), due);
                Edge.due("an answer by change " + i + " is another one", first.equals(due), false);
            }
        });
        Edge.holds("Questions change nothing: not what is answered of one word behind any change", () -> {
            for (Consumer<Desk> change : changes) {
                for (int i = 0; i < 8; i++) {
                    int word = i;
                    Desk before = asked();
                    before.x().suggestions(word);
                    change.accept(before);
                    Desk notBefore = asked();
                    change.accept(notBefore);
                    String due = Edge.outcome(notBefore.x(), x -> x.cost(word, 0));
                    Edge.due("cost of word " + word, Edge.outcome(before.x(), x -> x.cost(word, 0)), due);
                }
            }
        });
        Edge.holds("Questions change nothing", () -> {
            Desk desk = new Desk().stems(JOINABLE, "ab", "cd").own("gg", 1, 1).write("ba abcd.gh gg").style(0, "ab", "0");
            String first = desk.rights() + desk.readings() + desk.read() + desk.splits() + desk.starts();
            String then = desk.mistakes() + desk.suggestions(2) + desk.suggestions(0) + desk.text() + desk.x().made();
            String again = desk.mistakes() + desk.suggestions(2) + desk.suggestions(0) + desk.text() + desk.x().made();
            Edge.due("again", again, then);
            Edge.due("first again", desk.rights() + desk.readings() + desk.read() + desk.splits() + desk.starts(), first);
        });
    }
}
