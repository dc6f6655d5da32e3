/** Sentences of the document on costs and suggestions: promises 7 and 28 to 31. */
public final class EdgeCostTest {
    private static final int NEVER = SpellScribe.NEVER;
    private static final int JOINS_ONLY = SpellScribe.JOINS_ONLY;
    private static final int JOINABLE = SpellScribe.JOINABLE;
    private static final int NONE = SpellScribe.NONE;

    public static void main(String[] args) {
        soundsAlike();
        lettersThatBecomeOthers();
        lettersPutInAndLeftOut();
        swaps();
        leastSums();
        atMostFour();
        whichAreSuggested();
        order();
        longWords();
        asked();
        Edge.end("EdgeCostTest");
    }

    /** What it costs to change a word into another one; NONE if that is no suggestion. */
    private static int cost(Desk desk, String from, String to) {
        desk.stems(0, to).write(from);
        int count = desk.x().suggestions(0);
        int byAll = desk.x().suggestionsByAll(0);
        if (count != byAll || count > 1) {
            return -count * 100 - byAll;
        }
        return count == 0 ? NONE : desk.x().cost(0, 0);
    }

    private static void costs(int due, String... rows) {
        for (String row : rows) {
            String[] words = row.split(" ");
            Edge.due("from " + words[0] + " to " + words[1], cost(new Desk(), words[0], words[1]), due);
        }
    }

    private static void soundsAlike() {
        Edge.holds("Tells that two letters sound alike; returns whether that was not told before", () -> {
            Desk desk = new Desk();
            for (char one = 'a'; one <= 'h'; one++) {
                for (char other = (char) (one + 1); other <= 'h'; other++) {
                    char first = one;
                    char second = other;
                    Edge.due("new", desk.x().sound(first, second), true);
                    Edge.due("again", desk.x().sound(first, second), false);
                    Edge.due("the other way round", desk.x().sound(second, first), false);
                }
            }
        });
        Edge.holds("returns whether that was not told before: neighbours, too, and the greater letter first", () -> {
            Desk desk = new Desk();
            Edge.due("new", desk.x().sound('b', 'a'), true);
            Edge.due("the other way round", desk.x().sound('a', 'b'), false);
            Edge.due("new", desk.x().sound('h', 'a'), true);
            Edge.due("not by what others sound like", desk.x().sound('h', 'b'), true);
        });
        Edge.holds("or that sounds like it", () -> {
            for (char one = 'a'; one <= 'h'; one++) {
                for (char other = 'a'; other <= 'h'; other++) {
                    if (one != other) {
                        Edge.due(one + " " + other, cost(new Desk().sound(one, other), "" + one, "" + other), 1);
                        Edge.due(other + " " + one, cost(new Desk().sound(one, other), "" + other, "" + one), 1);
                    }
                }
            }
            Edge.due("not what sounds like what sounds like it", cost(new Desk().sound('a', 'd').sound('d', 'h'), "a", "h"), 2);
            Edge.due("told when it has been asked", cost(new Desk(), "a", "d"), 2);
            Desk told = new Desk().stems(0, "d").write("a");
            Edge.due("ahead of it", told.suggestions(0), "d2");
            Edge.due("behind it", told.sound('a', 'd').suggestions(0), "d1");
        });
    }

    private static void lettersThatBecomeOthers() {
        Edge.holds("1 for each letter that becomes one that is next to it in the row of letters; 2 another one", () -> {
            for (char from = 'a'; from <= 'h'; from++) {
                for (char to = 'a'; to <= 'h'; to++) {
                    int due = from == to ? NONE : Math.abs(from - to) == 1 ? 1 : 2;
                    Edge.due(from + " " + to, cost(new Desk(), "" + from, "" + to), due);
                }
            }
        });
        Edge.holds("2 for each one that becomes another one: the row of letters is no ring", () -> costs(2, "a h", "h a", "gha gaa"));
        Edge.holds("for each letter", () -> {
            costs(2, "aceg bceh", "ad be", "adad bead");
            costs(3, "aceg bdeh", "ad bg");
            costs(4, "aceg bdfh", "aceg ecag", "ad gh");
        });
    }

    private static void lettersPutInAndLeftOut() {
        Edge.holds("2 for each one that is put in", () -> {
            costs(2, "aceg haceg", "aceg ahceg", "aceg acegh", "a aa", "ab bab", "ggggggggg gggggggggg");
            costs(4, "aceg hacegh", "aceg ahhceg", "a aaa", "a hag", "gggggggg gggggggggg");
            costs(NONE, "a aaaa", "ggggggg gggggggggg");
        });
        Edge.holds("and for each one that is left out", () -> {
            costs(2, "haceg aceg", "ahceg aceg", "acegh aceg", "aa a", "gggggggggg ggggggggg");
            costs(4, "hacegh aceg", "ahhceg aceg", "aaa a", "hag a", "gggggggggg gggggggg");
            costs(NONE, "aaaa a", "gggggggggg ggggggg");
        });
        Edge.holds("2 for each one that is put in, and for each one that is left out: both", () -> {
            costs(4, "acegac hacega", "adgadg dgadgh", "abcdefghab habcdefgha", "habcdefgha abcdefghab");
            costs(3, "aceg bcegh", "aceg acf");
            costs(NONE, "acegac hhaceg", "aceg bdegha");
        });
    }

    private static void swaps() {
        Edge.holds("1 for each two neighbours that are swapped", () -> {
            costs(1, "ad da", "adg dag", "adg agd", "ahhh hahh");
            costs(2, "adbe daeb", "adhbe daheb");
            costs(4, "adbecfdg daebfcgd");
        });
        Edge.holds("of which neither is changed otherwise", () -> {
            costs(4, "ad eb", "dg hc", "ah hb");
            // No letter is swapped twice.
            costs(4, "adg dga", "adg gad", "adg gda");
        });
        Edge.holds("and between which nothing is put in", () -> {
            costs(NONE, "ah hca", "ad dga");
            costs(3, "ah cha", "ah hac", "ad gda", "ad dag");
        });
        Edge.holds("two neighbours: not those between which one is left out", () -> {
            costs(NONE, "ach ha", "aeh ha");
            costs(3, "cah ha", "ahc ha");
        });
        Edge.holds("1 for each two neighbours that are swapped: at the beginning and at the end, and of ten letters", () -> {
            costs(1, "adhhhhhhhh dahhhhhhhh", "hhhhhhhhad hhhhhhhhda", "hhhhadhhhh hhhhdahhhh");
            costs(3, "adhhhhhhh dahhhhhhhh", "dahhhhhhhh adhhhhhhh");
        });
    }

    private static void leastSums() {
        Edge.holds("To change a word into another one costs, in sum, at least", () -> {
            // A swap, not two that become others; one left out and put in, not four others.
            costs(1, "ab ba");
            costs(4, "aeaeaeae eaeaeaea", "hadgcf adgcfh");
            costs(2, "bd ac");
            costs(1, "aab aba");
        });
        Edge.holds("at least: a swap of two that sound alike costs 1, too", () -> {
            Edge.due("ad", cost(new Desk().sound('a', 'd'), "ad", "da"), 1);
            Edge.due("ad dd", cost(new Desk().sound('a', 'd'), "ad", "dd"), 1);
            Edge.due("aaaa dddd", cost(new Desk().sound('a', 'd'), "aaaa", "dddd"), 4);
            Edge.due("aaaaa ddddd", cost(new Desk().sound('a', 'd'), "aaaaa", "ddddd"), NONE);
        });
    }

    private static void atMostFour() {
        Edge.holds("to which it costs at most 4 to change it", () -> {
            costs(4, "aaaa bbbb", "aaaaa bbbba", "aa ee", "aaa eea", "a aaa", "aaa a", "aa eea");
            costs(NONE, "aaaaa bbbbb", "aaa eeb", "a bcc", "ccb a", "aa eee", "ggg aaa");
        });
        Edge.holds("to which it costs at most 4 to change it: swaps alone", () -> {
            costs(4, "adbecfdgh daebfcgdh");
            costs(NONE, "adbecfdgah daebfcgdha");
        });
    }

    private static void whichAreSuggested() {
        Edge.holds("all words that are right by an own word, or by a made word", () -> {
            Desk desk = new Desk().stem("ab", 1, 0, 0, 0).ending(0, 1, "d").beginning(0, 0, "c").own("bb", 3, 1).write("ac");
            Edge.due("suggestions", desk.suggestions(0), "ab1 ad1 bb2 cab3 cad3");
            Edge.due("none", new Desk().write("ac").suggestions(0), "");
        });
        Edge.holds("by a made word that is not NEVER suggested, and not for JOINS_ONLY", () -> {
            for (int is = 0; is <= 7; is++) {
                Desk desk = new Desk().stems(is, "ab").write("ac");
                Edge.due("is " + is, desk.suggestions(0), (is & (NEVER | JOINS_ONLY)) == 0 ? "ab1" : "");
                Edge.due("as an own word, too", desk.own("ab", 0, 0).suggestions(0), "ab1");
            }
            Desk two = new Desk().stems(NEVER, "ab").stems(JOINS_ONLY, "ab").write("ac");
            Edge.due("by neither stem", two.suggestions(0), "");
            Edge.due("by another stem", two.stems(JOINABLE, "ab").suggestions(0), "ab1");
        });
        Edge.holds("all words that are right by an own word, or by a made word: joins are not suggested", () -> {
            Desk desk = new Desk().stems(JOINABLE, "ab", "cd").write("abce");
            Edge.due("suggestions", desk.suggestions(0), "ab4");
            Edge.due("one that is made, too", desk.stems(0, "abcd").suggestions(0), "abcd1 ab4");
            Desk never = new Desk().stems(JOINABLE, "ab", "cd").stems(NEVER, "abcd").write("abce");
            Edge.due("one that is made and never suggested", never.suggestions(0), "ab4");
        });
        Edge.holds("all words that are right: not barred ones", () -> {
            Desk desk = new Desk().stems(0, "ab", "ad").own("bc", 0, 0).write("ac");
            Edge.due("ahead", desk.suggestions(0), "ab1 ad1 bc1");
            Edge.due("made and own ones barred", desk.bar("ab", "bc").suggestions(0), "ad1");
            Edge.due("own again", desk.own("ab", 0, 0).suggestions(0), "ab1 ad1");
        });
        Edge.holds("but itself", () -> {
            Desk desk = new Desk().stems(0, "ab", "ac").own("ab", 1, 1).write("ab ac ad");
            Edge.due("made and own", desk.suggestions(0), "ac1");
            Edge.due("made", desk.suggestions(1), "ab1");
            Edge.due("another one", desk.suggestions(2), "ac1 ab2");
            Edge.due("alone", new Desk().stems(0, "ab").write("ab").suggestions(0), "");
            Edge.due("barred", new Desk().stems(0, "ab", "ac").bar("ab").write("ab").suggestions(0), "ac1");
        });
        Edge.holds("Returns how many suggestions there are for a word, right or not", () -> {
            Desk desk = new Desk().stems(0, "ab", "ac", "hhhhh").stems(JOINABLE, "gg", "ab").write("ab ad ggab hhhhhhhh");
            Edge.due("right", desk.suggestions(0), "ac1 gg4");
            Edge.due("not right", desk.suggestions(1), "ac1 ab2 gg4");
            Edge.due("a join", desk.suggestions(2), "ab4 gg4");
            Edge.due("none", desk.suggestions(3), "");
        });
        Edge.holds("all words: each once, though made many times", () -> {
            Desk desk = new Desk().stems(0, "ab", "ab").stems(JOINABLE, "ab").own("ab", 0, 0).stem("a", 1, 0, 0, 0).ending(0, 0, "b");
            Edge.due("suggestions", desk.write("ac").suggestions(0), "ab1 a2");
        });
    }

    private static void order() {
        Edge.holds("by rising costs", () -> {
            Desk desk = new Desk().stems(0, "h", "abh", "abch", "bb", "ab", "abc", "ch").write("bh");
            Edge.due("suggestions", desk.suggestions(0), "ch1 h2 bb2 abh2 ab3 abc4 abch4");
        });
        Edge.holds("of several first the shorter ones", () -> {
            Desk desk = new Desk().stems(0, "dddd", "hd", "d", "ddd", "ah", "aaad", "aad", "a").write("ad");
            Edge.due("suggestions", desk.suggestions(0), "a2 d2 ah2 hd2 aad2 ddd4 aaad4");
        });
        Edge.holds("then those ahead in the order of letters", () -> {
            Desk desk = new Desk().stems(0, "eb", "ea", "gb", "ec", "fc", "he", "ah", "ab").stems(0, "fb", "da", "hb").write("eb");
            Edge.due("suggestions", desk.suggestions(0), "ea1 ec1 fb1 ab2 da2 fc2 gb2 hb2 ah4 he4");
        });
        Edge.holds("by rising costs, of several first the shorter ones: own words stand among them", () -> {
            Desk desk = new Desk().stems(0, "ab", "ah", "ac", "abc").own("aa", 0, 0).own("ag", 0, 0).own("b", 0, 0).write("ab");
            Edge.due("suggestions", desk.suggestions(0), "aa1 ac1 b2 ag2 ah2 abc2");
        });
        Edge.holds("then those ahead in the order of letters: of ten letters, too", () -> {
            Desk desk = new Desk().stems(0, "hhhhhhhhhg", "hhhhhhhhgh", "ghhhhhhhhh", "hhhhhhhhh").write("hhhhhhhhhh");
            Edge.due("suggestions", desk.suggestions(0), "ghhhhhhhhh1 hhhhhhhhgh1 hhhhhhhhhg1 hhhhhhhhh2");
        });
    }

    private static void longWords() {
        Edge.holds("suggestions: for words of more than 10 letters, too", () -> {
            costs(2, "abcdefghabc abcdefghab", "cabcdefghab abcdefghab", "ggggggggggg gggggggggg", "hgggggggggg gggggggggg", "gggggghgggg gggggggggg");
            costs(4, "gggggggggggg gggggggggg", "ggggggggggg ggggggggg", "ggggggggggg ggggggggag");
            costs(3, "ggggggggggg ggggghgggg", "adggggggggg dagggggggg");
            costs(NONE, "ggggggggggggg gggggggggg", "gggggggggggg ggggghgggg", "ggggggggggg gggggggg");
        });
        Edge.holds("suggestions: of a word as long as a text can be there are none", () -> {
            Desk desk = new Desk().stems(0, "gggggggggg").write("g".repeat(100));
            Edge.due("suggestions", desk.suggestions(0), "");
            Edge.due("split", desk.x().split(0), NONE);
        });
    }

    private static void asked() {
        Edge.holds("Returns the same, found by the full table of costs to each word there is", () -> {
            String[] words = {"abcd", "bacd", "hhhh", "dcba", "abdc", "a", "abcdefgh", "badcfehg"};
            Desk desk = new Desk().stems(0, words);
            for (String word : words) {
                desk.rewrite(word);
                Edge.due("of " + word, desk.x().suggestionsByAll(0), desk.x().suggestions(0));
            }
        });
        Edge.holds("Returns what it costs to change a word into a suggestion", () -> {
            Desk desk = new Desk().stems(0, "ab", "ah", "hb").write("ac ab cb");
            Edge.due("of the first one", desk.x().cost(0, 0) + " " + desk.x().cost(0, 1) + " " + desk.x().cost(0, 2), "1 2 3");
            Edge.due("of the last one", desk.x().cost(2, 0) + " " + desk.x().cost(2, 1) + " " + desk.x().cost(2, 2), "2 2 4");
            Edge.due("of the first one again", desk.x().cost(0, 2), 3);
            Edge.thrown("behind the last", Edge.INDEX, desk, x -> x.cost(0, 3));
            Edge.thrown("of a right one, behind the last", Edge.INDEX, desk, x -> x.cost(1, 2));
        });
        Edge.holds("Returns the letter; ' ' behind the last one", () -> {
            String word = "abcdefghab";
            Desk ten = new Desk().stems(0, word).write("abcdefghac");
            for (int i = 0; i < word.length(); i++) {
                Edge.due("letter " + i, ten.x().suggested(0, 0, i), word.charAt(i));
            }
            Edge.due("behind ten letters", ten.x().suggested(0, 0, 10), ' ');
            Edge.due("far behind", ten.x().suggested(0, 0, Integer.MAX_VALUE), ' ');
            Desk one = new Desk().stems(0, "h", "g").write("f");
            Edge.due("one letter", one.x().suggested(0, 0, 0) + "" + one.x().suggested(0, 1, 0), "gh");
            Edge.due("behind one letter", one.x().suggested(0, 0, 1) + "" + one.x().suggested(0, 1, 2), "  ");
        });
        Edge.holds("suggestion: from 0, also when they are many", EdgeCostTest::mostSuggestions);
        Edge.holds("to each word there is: also when they are as many as there can be", EdgeCostTest::mostWords);
    }

    private static void mostWords() {
        Desk desk = new Desk();
        for (String added : new String[] {"b", "c", "d", "e", "f", "g"}) {
            desk.ending(0, 0, added);
        }
        desk.beginning(0, 0, "h").beginning(0, 0, "hh");
        for (int rule = 0; rule < 6; rule++) {
            desk.more(rule, 1);
        }
        for (int i = 0; i < 12; i++) {
            desk.stem((i < 6 ? "h" : "g") + "bcdefg".charAt(i % 6) + "a", 1, 0, 0, 0);
        }
        Edge.due("made", desk.x().made(), 12 * 129);
        for (int i = 0; i < 10; i++) {
            desk.own("hhhhhhhh" + "abcdefghab".charAt(i) + (i < 8 ? "" : "h"), 0, 0);
        }
        desk.write("hhhhhhhhaa hhhhhhhhbg gba");
        Edge.due("the first own ones", desk.suggestions(0), "hhhhhhhha2 hhhhhhhhah2 hhhhhhhhb3 hhhhhhhhbh3 hhhhhhhhc4 hhhhhhhhd4 hhhhhhhhe4 hhhhhhhhf4 hhhhhhhhg4 hhhhhhhhh4");
        Edge.due("the last own one", desk.x().suggested(1, 0, 8) + "" + desk.x().suggested(1, 0, 9), "bh");
        Edge.due("a made one", desk.x().suggestions(2) > 100, true);
    }

    /** Stems of one letter, each with endings in two levels, and own words: all of them cost at most 4. */
    private static void mostSuggestions() {
        Desk desk = new Desk();
        for (String added : new String[] {"b", "c", "d", "e", "f", "g"}) {
            desk.ending(0, 0, added);
        }
        for (int rule = 0; rule < 6; rule++) {
            desk.more(rule, 1);
        }
        for (char stem = 'a'; stem <= 'h'; stem++) {
            desk.stem("" + stem, 1, 0, 0, 0);
        }
        int made = desk.x().made();
        Edge.due("made", made, 8 * 43);
        desk.own("aa", 0, 0).own("ha", 0, 0).write("aa");
        int count = desk.x().suggestions(0);
        Edge.due("by all", desk.x().suggestionsByAll(0), count);
        int before = 0;
        for (int s = 0; s < count; s += 7) {
            int cost = desk.x().cost(0, s);
            Edge.due("rising", cost >= before && cost <= 4 && cost >= 1, true);
            before = cost;
        }
        Edge.due("the last one", desk.x().cost(0, count - 1), 4);
        Edge.thrown("behind it", Edge.INDEX, desk, x -> x.cost(0, count));
        Edge.thrown("behind it", Edge.INDEX, desk, x -> x.suggested(0, count, 0));
    }
}
