/** Sentences of the document on texts, words in them, and edits: promises 14, 15 and 17 to 20. */
public final class EdgeTextTest {
    private static final String SIGNS = "abcdefgh .<>";

    public static void main(String[] args) {
        signs();
        bounds();
        markup();
        markupOfOneSign();
        words();
        mostWords();
        sentences();
        editsOfOneSentence();
        editsOfSentences();
        likeSentences();
        Edge.end("EdgeTextTest");
    }

    private static void signs() {
        Edge.holds("letters, blanks, \".\", \"<\" and \">\"", () -> {
            Desk desk = new Desk();
            for (int i = 0; i < SIGNS.length(); i++) {
                desk.x().put(i, SIGNS.charAt(i));
                Edge.due("length", desk.x().length(), i + 1);
                Edge.due("sign", desk.x().signAt(i), SIGNS.charAt(i));
            }
            Edge.due("text", desk.text(), SIGNS);
        });
        Edge.holds("place: 0 to how many signs there are", () -> {
            Desk desk = new Desk();
            desk.x().put(0, 'b');
            desk.x().put(1, 'd');
            desk.x().put(0, 'a');
            desk.x().put(2, 'c');
            desk.x().put(4, 'e');
            Edge.due("text", desk.text(), "abcde");
        });
        Edge.holds("place: 0 to how many signs there are, less 1", () -> {
            Desk desk = new Desk().write("abcde");
            desk.x().take(4);
            Edge.due("the last one", desk.text(), "abcd");
            desk.x().take(0);
            Edge.due("the first one", desk.text(), "bcd");
            desk.x().take(1);
            Edge.due("one in the middle", desk.text(), "bd");
            desk.x().take(1);
            desk.x().take(0);
            Edge.due("none is left", desk.text() + desk.x().length(), "0");
            desk.x().put(0, 'h');
            Edge.due("a new one", desk.text(), "h");
        });
        Edge.holds("Returns how many signs the text has", () -> {
            Desk desk = new Desk();
            for (int i = 0; i < 100; i++) {
                Edge.due("length", desk.x().length(), i);
                desk.x().put(i / 2, SIGNS.charAt(i % SIGNS.length()));
            }
            Edge.due("length", desk.x().length(), 100);
            for (int i = 99; i >= 0; i--) {
                desk.x().take(i / 2);
                Edge.due("length", desk.x().length(), i);
            }
        });
    }

    private static void bounds() {
        Edge.holds("A text has at most 100 signs", () -> {
            Desk desk = new Desk().write("a".repeat(99));
            Edge.due("the 100th", desk.x().put(99, 'b'), 1);
            Edge.thrown("a 101st", Edge.STATE, desk, x -> x.put(100, 'c'));
            Edge.thrown("a 101st in front", Edge.STATE, desk, x -> x.put(0, 'c'));
            Edge.due("length", desk.x().length(), 100);
            Edge.due("the last one", desk.x().signAt(99), 'b');
            Edge.due("one out", desk.x().take(0), 1);
            Edge.due("and one in", desk.x().put(99, 'd'), 1);
            Edge.due("the last ones", desk.x().signAt(98) + "" + desk.x().signAt(99), "bd");
        });
        Edge.holds("A text has at most 100 signs: put in front of 99", () -> {
            Desk desk = new Desk().write("a.".repeat(49) + "a");
            Edge.due("the 100th", desk.x().put(0, 'b'), 1);
            Edge.due("first and last", desk.x().signAt(0) + "" + desk.x().signAt(1) + desk.x().signAt(99), "baa");
        });
    }

    private static String wordsOf(String text) {
        return new Desk().write(text).starts();
    }

    private static void markup() {
        Edge.holds("A \"<\" and all behind it up to the next \">\", this one too, is markup", () -> {
            Edge.due("a letter in it", wordsOf("a<b>c"), "0 4");
            Edge.due("words in it", wordsOf("<a b.c>d"), "7");
            Edge.due("nothing in it", wordsOf("a<>b"), "0 3");
            Edge.due("the next one, not the last one", wordsOf("a<b>c>d"), "0 4 6");
            Edge.due("two", wordsOf("<a>b<c>d<e>"), "3 7");
            Edge.due("a < in it", wordsOf("<<a>b>c"), "4 6");
            Edge.due("a < in it again", wordsOf("<a<b>c<d<e>f"), "5 11");
        });
        Edge.holds("or up to the end", () -> {
            Edge.due("all", wordsOf("<a b.c<d"), "");
            Edge.due("behind a word", wordsOf("a<b c.d"), "0");
            Edge.due("behind markup", wordsOf("a<b>c<d"), "0 4");
            Edge.due("a < at the end", wordsOf("a b<"), "0 2");
            Edge.due("only a <", wordsOf("<"), "");
        });
        Edge.holds("in which nothing counts", () -> {
            Desk desk = new Desk().stems(0, "ab").write("ab<ba>ab<.>ba<bb");
            Edge.due("mistakes", desk.mistakes(), "W2");
            Edge.due("words", desk.x().words(), 3);
        });
        Edge.holds("in which nothing counts: no \".\" ends a sentence there", () -> {
            Desk desk = new Desk().stem("a", 0, 0, 0, 0).stem("b", 0, 1, 0, 0).tell(0, 1, SpellScribe.APART);
            Edge.due("in markup", desk.write("a<.>b").mistakes(), "B1");
            Edge.due("ahead of it", desk.rewrite("a.<>b").mistakes(), "");
            Edge.due("behind it", desk.rewrite("a<>.b").mistakes(), "");
            Edge.due("behind a > that ends none", desk.rewrite("a>.b").mistakes(), "");
            Edge.due("in one that follows", desk.rewrite("a<>><.>b").mistakes(), "B1");
        });
    }

    private static void markupOfOneSign() {
        Edge.holds("a \">\" elsewhere is like a blank", () -> {
            Edge.due("between letters", wordsOf("a>b"), "0 2");
            Edge.due("at the ends", wordsOf(">a>"), "1");
            Edge.due("behind markup", wordsOf("<a>>b>c"), "4 6");
            Edge.due("many", wordsOf(">>>"), "");
            Desk desk = new Desk().stem("a", 0, 0, 0, 0).stem("b", 0, 1, 0, 0).tell(0, 1, SpellScribe.APART);
            Edge.due("no sentence ends there", desk.write("a>b").mistakes(), "B1");
        });
        Edge.holds("markup: by edits words come and go", () -> {
            Desk desk = new Desk().write("a b> c d");
            Edge.due("none", desk.starts(), "0 2 5 7");
            desk.x().put(1, '<');
            Edge.due("a <", desk.starts(), "0 6 8");
            desk.x().take(4);
            Edge.due("no > any more", desk.starts(), "0");
            desk.x().take(1);
            Edge.due("none again", desk.starts(), "0 2 4 6");
        });
    }

    private static void words() {
        Edge.holds("The words of a text are its greatest rows of letters", () -> {
            Edge.due("one", wordsOf("abcdefgh"), "0");
            Edge.due("one letter", wordsOf("h"), "0");
            Edge.due("in the middle", wordsOf("  ab  "), "2");
            Edge.due("as long as can be", wordsOf("g".repeat(100)), "0");
            Edge.due("none", wordsOf(" . > "), "");
        });
        Edge.holds("not in markup, and between which there is some other sign, markup included", () -> {
            Edge.due("each sign", wordsOf("a b.c>d<>e<h>f"), "0 2 4 6 9 13");
            Edge.due("several", wordsOf("a  b..c>>d<><>e"), "0 3 6 9 14");
        });
        Edge.holds("Returns the place of its first letter", () -> {
            Desk desk = new Desk().write("..ab");
            Edge.due("place", desk.x().wordAt(0), 2);
            desk.x().put(0, 'h');
            Edge.due("places", desk.starts(), "0 3");
            desk.x().put(4, ' ');
            Edge.due("places of two out of one", desk.starts(), "0 3 5");
            desk.x().take(1);
            desk.x().take(1);
            Edge.due("places of one out of two", desk.starts(), "0 3");
        });
    }

    private static void mostWords() {
        Edge.holds("Returns how many words the text has", () -> {
            Desk desk = new Desk();
            for (int i = 0; i < 50; i++) {
                desk.x().put(2 * i, 'a');
                Edge.due("words", desk.x().words(), i + 1);
                desk.x().put(2 * i + 1, " .>".charAt(i % 3));
                Edge.due("words", desk.x().words(), i + 1);
            }
            Edge.due("the last one", desk.x().wordAt(49), 98);
            Edge.thrown("behind it", Edge.INDEX, desk, x -> x.wordAt(50));
            Edge.due("without the first one", desk.x().take(0), 1);
            Edge.due("words", desk.x().words(), 49);
            Edge.due("the last one then", desk.x().wordAt(48), 97);
            Edge.due("one at the end", desk.x().put(99, 'b'), 1);
            Edge.due("words", desk.x().words() + " " + desk.x().wordAt(49), "50 99");
        });
    }

    private static void sentences() {
        Edge.holds("Behind each \".\" that is not in markup a sentence ends, and behind the last sign", () -> {
            Desk desk = new Desk().stem("a", 0, 0, 0, 0).stem("b", 0, 1, 0, 0).tell(0, 1, SpellScribe.APART);
            Edge.due("one", desk.write("a b").mistakes(), "B1");
            Edge.due("two", desk.rewrite("a. b").mistakes(), "");
            Edge.due("the last one too", desk.rewrite("b.a b").mistakes(), "B2");
            Edge.due("several points", desk.rewrite("a..b a b.").mistakes(), "B3");
        });
        Edge.holds("Behind each \".\" a sentence ends: it is one of its signs", () -> {
            Edge.due("a point behind a word changes its sentence", new Desk().write("a").x().put(1, '.'), 1);
            Edge.due("a point ahead of a word does not", new Desk().write("a").x().put(0, '.'), 0);
            Edge.due("a blank ahead of a word does", new Desk().write("a").x().put(0, ' '), 1);
            Edge.due("a blank behind a point changes the next one", new Desk().write("a.b c").x().put(2, ' '), 2);
            Edge.due("a blank ahead of it changes the one ahead", new Desk().write("a.b c").x().put(1, ' '), 1);
        });
        Edge.holds("Behind each \".\" a sentence ends: as many sentences as there can be", () -> {
            Desk desk = new Desk().write(".".repeat(99));
            Edge.due("a point", desk.x().put(50, '.'), 0);
            Edge.due("words", desk.x().words(), 0);
            Edge.due("a word in place of one", desk.x().take(99) + " " + desk.x().put(99, 'a'), "0 1");
            Edge.due("at the front", desk.x().take(0) + " " + desk.x().put(0, 'b'), "0 1");
        });
    }

    private static void editsOfOneSentence() {
        Edge.holds("Returns how many words are checked by that", () -> {
            Desk desk = new Desk();
            Edge.due("first letter", desk.x().put(0, 'a'), 1);
            Edge.due("second letter", desk.x().put(1, 'b'), 1);
            Edge.due("into two", desk.x().put(1, ' '), 2);
            Edge.due("a blank more", desk.x().put(1, ' '), 2);
            Edge.due("a third word", desk.x().put(4, '>') + " " + desk.x().put(5, 'c'), "2 3");
            Edge.due("one less", desk.x().take(0), 2);
            Edge.due("one out of two", desk.x().take(3), 1);
            Edge.due("blanks out", desk.x().take(0) + " " + desk.x().take(0), "1 1");
            Edge.due("letters out", desk.x().take(0) + " " + desk.x().take(0), "1 0");
            Edge.due("a blank alone", desk.x().put(0, ' '), 0);
            Edge.due("none is left", desk.x().take(0), 0);
        });
        Edge.holds("what is checked by an edit: right words as well as others, by their number in the text", () -> {
            Desk desk = new Desk().stems(0, "a").write("a a b.a").bar("a");
            Edge.due("words", desk.x().put(0, 'a'), 3);
        });
        Edge.holds("A sentence is a row of signs: those of markup, too", () -> {
            Desk desk = new Desk().write("a <b> c.d");
            Edge.due("in markup", desk.x().put(3, 'c'), 2);
            Edge.due("a point in markup", desk.x().put(3, '.'), 2);
            Edge.due("out of markup", desk.x().take(3), 2);
            Edge.due("the end of markup", desk.x().take(5), 1);
            Edge.due("words", desk.starts(), "0");
            Edge.due("and back", desk.x().put(5, '>'), 3);
            Edge.due("no beginning of it", desk.x().take(2), 3);
        });
    }

    private static void editsOfSentences() {
        Edge.holds("each sentence that the text has then, and did not have ahead of it", () -> {
            Edge.due("the first one", new Desk().write("a.b b.c c c").x().put(0, 'a'), 1);
            Edge.due("the second one", new Desk().write("a.b b.c c c").x().put(2, 'b'), 2);
            Edge.due("the last one", new Desk().write("a.b b.c c c").x().put(6, 'c'), 3);
            Edge.due("two by a point put in", new Desk().write("a.b b c.d").x().put(5, '.'), 3);
            Edge.due("one by a point taken out", new Desk().write("a.b b.c").x().take(1), 2);
            Edge.due("the others stay", new Desk().write("a.b b.a.c d").x().put(9, '.'), 2);
            Edge.due("one of the two is like one that was there", new Desk().write("cb.b cb.").x().put(5, '.'), 2);
        });
        Edge.holds("each sentence that the text did not have ahead of it: also one that moves", () -> {
            Edge.due("parted", new Desk().write("a a.b b").x().put(0, '.'), 0);
            Edge.due("a point behind the last sign", new Desk().write("a.a").x().put(3, '.'), 1);
            Edge.due("one of two like ones goes", new Desk().write("a.a.").x().take(3), 1);
            Edge.due("a like one grows", new Desk().write("ab.a.").x().put(4, 'b'), 1);
            Edge.due("an empty one goes", new Desk().write("a..b").x().take(1), 0);
            Edge.due("in front of one", new Desk().write("aa.a.").x().take(0), 1);
        });
    }

    private static void likeSentences() {
        Edge.holds("of several like ones as many as are more than before", () -> {
            Edge.due("one more of one", new Desk().write("a b.aa b.").x().take(4), 2);
            Edge.due("one more of two", new Desk().write("a b.a b.aa b.").x().take(8), 2);
            Edge.due("one less of three", new Desk().write("a.a.a.").x().put(2, 'b'), 1);
            // The text had one sentence "a." and has two then; the third one is new, too.
            Edge.due("two new ones, one of them like one ahead", new Desk().write("a.a b b").x().put(3, '.'), 3);
            Edge.due("two that are like each other", new Desk().write("b.a a.").x().put(3, '.'), 2);
            Edge.due("both like each other, none there before", new Desk().write("b a.bb a.").x().take(4), 2);
            Edge.due("markup parts nothing", new Desk().write("a<.>a.a<.>a").x().put(11, '.'), 2);
        });
        Edge.holds("of several like ones as many as are more than before: two more at once", () -> {
            Desk desk = new Desk().write("a<a.a.a.");
            Edge.due("words", desk.starts(), "0");
            // Three sentences "a." come out of the markup, behind a sentence "aa.".
            Edge.due("out of markup", desk.x().take(1), 3);
            Edge.due("words", desk.starts(), "0 3 5");
            Desk more = new Desk().write("a.b<>a.a.b").rewrite("a.b<a.a.b");
            Edge.due("one there, two come", more.x().put(4, '>'), 4);
        });
        Edge.holds("of several like ones as many as are more than before: those without words count nothing", () -> {
            Edge.due("blanks", new Desk().write("a. .").x().put(4, ' '), 0);
            Edge.due("a point", new Desk().write("a. .").x().put(3, '.'), 0);
            Edge.due("a blank into words", new Desk().write("a. .").x().put(2, 'b'), 1);
        });
    }
}
