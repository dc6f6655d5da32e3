/** Sentences of the document on correcting: promise 16. */
public final class EdgeCorrectTest {
    private static final int APART = SpellScribe.APART;

    public static void main(String[] args) {
        wrongWords();
        longWords();
        stylesBehindWords();
        firstStyles();
        overlappingStyles();
        endings();
        hundredSigns();
        hundredSignsByStyles();
        twentyChanges();
        rings();
        ringsLater();
        ringsByTheTwentieth();
        Edge.end("EdgeCorrectTest");
    }

    /** How many changes were made, and the text then. */
    private static String corrected(Desk desk) {
        int changes = desk.x().correct();
        return changes + " " + desk.text();
    }

    private static String many(String word, int times) {
        return (word + " ").repeat(times).trim();
    }

    private static void wrongWords() {
        Edge.holds("if there is a word that is not right, and for which there is a suggestion, it becomes its first suggestion", () -> {
            Desk desk = new Desk().stems(0, "ab", "hg").write("ac");
            Edge.due("one", corrected(desk), "1 ab");
            Edge.due("none", corrected(desk), "0 ab");
            Edge.due("some", corrected(desk.rewrite("ac ab.<ac>hh")), "2 ab ab.<ac>hg");
            Edge.due("all is right then", desk.mistakes(), "");
        });
        Edge.holds("its first suggestion: the cheapest, of several the shortest, then that ahead in the order of letters", () -> {
            Desk desk = new Desk().stems(0, "ad", "aff", "fa", "ca", "a", "ef");
            Edge.due("the cheapest", corrected(desk.write("ac")), "1 ad");
            Edge.due("a swap", corrected(desk.rewrite("af")), "1 fa");
            Edge.due("the shortest", corrected(desk.rewrite("ah")), "1 a");
            Edge.due("ahead in the order of letters", corrected(desk.rewrite("aa.aac")), "2 a.ad");
        });
        Edge.holds("and for which there is a suggestion: others are passed over", () -> {
            Desk desk = new Desk().stems(0, "ab").write("hhhh ac hhhh.hhhh ba");
            Edge.due("the others stay", corrected(desk), "2 hhhh ab hhhh.hhhh ab");
            Edge.due("none has one", corrected(desk), "0 hhhh ab hhhh.hhhh ab");
            Edge.due("mistakes", desk.mistakes(), "W0 W2 W3");
            Edge.due("never suggested", corrected(new Desk().stems(SpellScribe.NEVER, "ab").write("ac")), "0 ac");
            Edge.due("barred", corrected(new Desk().stems(0, "ab", "ah").bar("ab").write("ab ac")), "2 ah ah");
        });
        Edge.holds("the first such one", () -> {
            Desk desk = new Desk().stems(0, "aaa").write("aa aa aa" + " ".repeat(91));
            Edge.due("only the first one has room", desk.x().correct(), 1);
            Edge.due("words", desk.rights(), "+--");
            Desk later = new Desk().stems(0, "aaa").write("hhhh aa aa" + " ".repeat(89));
            Edge.due("behind one without suggestions", later.x().correct() + later.rights(), "1-+-");
        });
    }

    private static void longWords() {
        Edge.holds("a word that is not right, and for which there is a suggestion: of more than 10 letters, too", () -> {
            Desk desk = new Desk().stems(0, "gggggggggg").write("ggggggggggg gggggggggggg ggggggggggggg");
            Edge.due("11, 12 and 13 letters", corrected(desk), "2 gggggggggg gggggggggg ggggggggggggg");
        });
        Edge.holds("becomes its first suggestion: words of other sizes", () -> {
            Desk desk = new Desk().stems(0, "a", "hhhhh").write("aaa hhh b.hhhhhhh");
            Edge.due("shorter and longer ones", corrected(desk), "4 a hhhhh a.hhhhh");
        });
    }

    private static void stylesBehindWords() {
        Edge.holds("otherwise, if a style is taken somewhere, the first such one changes its word", () -> {
            Desk desk = new Desk().stems(0, "ab", "hh").style(0, "ab", "hh").write("hh ac");
            Edge.due("both", corrected(desk), "2 ab ab");
            Edge.due("only the style", corrected(desk.rewrite("hh.hh")), "2 ab.ab");
            // Were the style ahead of the wrong word, the text would have no room for the word.
            Desk words = new Desk().stems(0, "abb", "gg").style(0, "gge", "gg").own("gge", 0, 0).write("gg ab" + " ".repeat(94));
            Edge.due("the wrong word first", words.x().correct() + words.rights(), "1++");
            Edge.due("text", words.text().trim(), "gg abb");
        });
        Edge.holds("otherwise, if a style is taken: behind a word that is not right and has no suggestion", () -> {
            Desk desk = new Desk().own("a", 0, 0).own("b", 1, 0).style(0, "b", "0").write("hhhh a hhhh");
            Edge.due("text", corrected(desk), "1 hhhh b hhhh");
            Desk wrong = new Desk().style(0, "g", "hhhh").write("hhhh hhhh");
            Edge.due("that is the item itself", corrected(wrong), "2 g g");
        });
        Edge.holds("changes its word: to one that is not right", () -> {
            Desk none = new Desk().own("a", 0, 0).style(0, "hhhh", "a").write("a a");
            Edge.due("without suggestions", corrected(none), "2 hhhh hhhh");
            Edge.due("mistakes", none.mistakes(), "W0 W1");
            Desk some = new Desk().own("aaaa", 0, 0).own("hh", 1, 0).style(0, "hhh", "aaaa").write("aaaa aaaa");
            Edge.due("with one, at once", corrected(some), "4 hh hh");
            Desk barred = new Desk().own("a", 0, 0).own("h", 1, 0).bar("b").style(0, "b", "a").write("a");
            Edge.due("a barred one, back again", corrected(barred), "-1 a");
        });
    }

    private static void firstStyles() {
        Edge.holds("the first such one changes its word: by its place, not by its number", () -> {
            Desk desk = new Desk().own("a", 0, 0).own("b", 1, 0).own("c", 2, 0).style(0, "ccc", "1").style(0, "cc", "0");
            desk.own("cc", 2, 0).own("ccc", 2, 0).write("a b" + " ".repeat(96));
            Edge.due("there is room for one more sign", desk.x().correct() + desk.text().trim(), "1cc b");
        });
        Edge.holds("changes its word: an item of each place", () -> {
            Desk desk = new Desk().own("a", 0, 0).own("b", 1, 0).own("c", 2, 0).style(2, "c", "0", "1", "1").style(1, "c", "0", "1");
            Edge.due("the third, then the second", corrected(desk.write("a b b a b")), "3 a c c a c");
        });
        Edge.holds("if a style is taken somewhere: by how the sentence is read", () -> {
            Desk desk = new Desk().stem("a", 0, 0, 0, 0).stem("a", 0, 1, 0, 0).own("b", 2, 0).own("c", 3, 0);
            desk.tell(0, 2, APART).style(0, "c", "1").write("a a b");
            Edge.due("only the one ahead of b", corrected(desk), "1 a c b");
        });
    }

    private static void overlappingStyles() {
        Edge.holds("again and again: what is taken changes with the text", () -> {
            Desk desk = new Desk().own("a", 0, 0).own("b", 1, 0).own("c", 2, 0).style(1, "b", "0", "2").style(0, "c", "1", "1");
            Edge.due("a style that comes to fit ahead of the last change", corrected(desk.write("a b b b")), "-1 a b b b");
            Desk chain = new Desk().own("a", 0, 0).own("b", 1, 0).own("c", 2, 0).own("d", 3, 0);
            chain.style(0, "b", "0").style(0, "c", "1").style(0, "d", "2").write("a");
            Edge.due("one behind the other", corrected(chain), "3 d");
            Edge.due("in two words", corrected(chain.rewrite("a b.a")), "8 d d.d");
        });
        Edge.holds("again and again: overlapping ones", () -> {
            Desk desk = new Desk().own("a", 0, 0).own("b", 1, 0).own("c", 2, 0);
            desk.style(0, "c", "0", "1").style(1, "c", "1", "0").write("a b a");
            // The first two, then the last two.
            Edge.due("text", corrected(desk), "2 c b c");
        });
    }

    private static void endings() {
        Edge.holds("otherwise it ends", () -> {
            Edge.due("no text", corrected(new Desk()), "0 ");
            Edge.due("no words", corrected(new Desk().stems(0, "a").write(" .<b")), "0  .<b");
            Edge.due("nothing told", corrected(new Desk().write("ab ba")), "0 ab ba");
            Desk broken = new Desk().own("a", 0, 0).tell(0, 0, APART).write("a a");
            Edge.due("broken words are not changed", corrected(broken) + broken.mistakes(), "0 a aB1");
        });
        Edge.holds("Returns how many changes were made", () -> {
            for (int count = 0; count <= 19; count++) {
                Desk desk = new Desk().stems(0, "aa").write(many("ab", count));
                Edge.due("changes", corrected(desk), count + " " + many("aa", count));
            }
        });
    }

    private static void hundredSigns() {
        Edge.holds("It ends as well, if the text would have more than 100 signs, which it has not then", () -> {
            for (int size = 97; size <= 100; size++) {
                Desk desk = new Desk().stems(0, "aaa").write("aa" + " ".repeat(size - 2));
                boolean hasRoom = size < 100;
                Edge.due("of " + size, desk.x().correct() + desk.rights(), hasRoom ? "1+" : "0-");
                Edge.due("length", desk.x().length(), hasRoom ? size + 1 : size);
                Edge.due("the rest", desk.text().trim(), hasRoom ? "aaa" : "aa");
            }
        });
        Edge.holds("if the text would have more than 100 signs: by two more", () -> {
            for (int size = 97; size <= 100; size++) {
                Desk desk = new Desk().stems(0, "aaaa").write(" ".repeat(size - 2) + "aa");
                boolean hasRoom = size < 99;
                Edge.due("of " + size, desk.x().correct() + desk.rights(), hasRoom ? "1+" : "0-");
                Edge.due("length", desk.x().length(), hasRoom ? size + 2 : size);
            }
        });
        Edge.holds("if the text would have more than 100 signs: as many, or less, will do", () -> {
            Desk like = new Desk().stems(0, "aa").write(" ".repeat(98) + "ab");
            Edge.due("as many", like.x().correct() + like.rights() + like.x().length(), "1+100");
            Desk less = new Desk().stems(0, "aa").write("aaaa" + " ".repeat(96));
            Edge.due("less", less.x().correct() + less.rights() + less.x().length(), "1+98");
            Desk then = new Desk().stems(0, "aa", "hhh").write("aaa hh" + " ".repeat(94));
            Edge.due("less, then more", then.x().correct() + then.rights() + then.x().length(), "2++100");
        });
        Edge.holds("It ends as well: nothing behind a change without room is changed", () -> {
            Desk desk = new Desk().stems(0, "aaa", "hh").style(0, "hh", "hh").write("aa hg" + " ".repeat(95));
            Edge.due("neither a word nor a style", desk.x().correct() + desk.rights(), "0--");
            Desk then = new Desk().stems(0, "aaa", "hh").write("hg aa hg" + " ".repeat(92));
            Edge.due("what is ahead of it is changed", then.x().correct() + then.rights(), "1+--");
            Desk part = new Desk().stems(0, "aaa", "hh").write("aa aa hg" + " ".repeat(91));
            Edge.due("until there is no room", part.x().correct() + part.rights() + part.x().length(), "1+--100");
        });
    }

    private static void hundredSignsByStyles() {
        Edge.holds("if the text would have more than 100 signs: by a style", () -> {
            for (int size = 97; size <= 100; size++) {
                Desk desk = new Desk().own("a", 0, 0).own("bbb", 1, 0).style(0, "bbb", "0").write("a" + " ".repeat(size - 1));
                boolean hasRoom = size <= 98;
                Edge.due("of " + size, desk.x().correct() + " " + desk.text().trim(), hasRoom ? "1 bbb" : "0 a");
                Edge.due("length", desk.x().length(), hasRoom ? size + 2 : size);
            }
        });
        Edge.holds("if the text would have more than 100 signs: a style that comes behind has to wait", () -> {
            Desk desk = new Desk().own("a", 0, 0).own("bb", 1, 0).own("c", 2, 0).own("d", 3, 0).style(0, "bb", "0").style(0, "d", "2");
            Edge.due("no room", desk.write("a c" + " ".repeat(97)).x().correct() + desk.text().trim(), "0a c");
            desk.x().take(99);
            Edge.due("room", desk.x().correct() + desk.text().trim(), "2bb d");
        });
    }

    private static void twentyChanges() {
        Edge.holds("and when 20 changes were made", () -> {
            Desk desk = new Desk().stems(0, "aa").write(many("ab", 22));
            Edge.due("20 of 22", desk.x().correct(), 20);
            Edge.due("the last ones are left", desk.mistakes(), "W20 W21");
            Edge.due("the rest", desk.x().correct() + desk.mistakes(), "2");
            Desk all = new Desk().stems(0, "aa").write(many("ab", 20));
            Edge.due("20 of 20", all.x().correct() + all.mistakes(), "20");
        });
        Edge.holds("and when 20 changes were made: those by styles count", () -> {
            Desk desk = new Desk().own("a", 0, 0).own("b", 1, 0).style(0, "b", "0").write(many("a", 21));
            Edge.due("21 styles", corrected(desk), "20 " + many("b", 20) + " a");
            Desk both = new Desk().stems(0, "aa").own("hh", 1, 0).style(0, "hh", "0").write(many("ab", 11));
            Edge.due("11 words and 11 styles", corrected(both), "20 " + many("hh", 9) + " " + many("aa", 2));
        });
        Edge.holds("20 changes: each correction counts its own", () -> {
            Desk desk = new Desk().stems(0, "aa").write(many("ab", 30));
            Edge.due("first", desk.x().correct(), 20);
            Edge.due("second", desk.x().correct(), 10);
            Edge.due("third", desk.x().correct(), 0);
        });
    }

    private static void rings() {
        Edge.holds("by a change to what is there already, too", () -> {
            Desk desk = new Desk().own("a", 0, 0).style(0, "a", "0").write("a");
            Edge.due("as it was when it began", corrected(desk), "-1 a");
            Edge.due("again", corrected(desk), "-1 a");
            Edge.due("behind a change", corrected(desk.rewrite("b")), "-1 a");
            Desk full = new Desk().own("a", 0, 0).style(0, "a", "0").write("a" + " ".repeat(99));
            Edge.due("in a hundred signs", full.x().correct(), -1);
        });
        Edge.holds("it ends in a ring, if the text is as it was when it began", () -> {
            for (int size = 1; size <= 8; size++) {
                Desk desk = new Desk();
                String[] words = new String[size];
                for (int i = 0; i < size; i++) {
                    words[i] = "abcdefgh".substring(i, i + 1);
                    desk.own(words[i], i % 4, i / 4);
                }
                for (int i = 0; i < size; i++) {
                    desk.style(0, words[(i + 1) % size], words[i]);
                }
                Edge.due("ring of " + size, corrected(desk.write("a")), "-1 a");
                Edge.due("from its last one on", corrected(desk.rewrite(words[size - 1])), "-1 " + words[size - 1]);
            }
        });
        Edge.holds("it ends in a ring: the same again is one, too, when it is corrected once more", () -> {
            Desk desk = new Desk().own("a", 0, 0).own("b", 1, 0).style(0, "b", "a").write("a");
            Edge.due("a change", corrected(desk), "1 b");
            Edge.due("back by hand, and the change again", corrected(desk.rewrite("a")), "1 b");
        });
    }

    private static void ringsLater() {
        Edge.holds("or behind one of the changes before", () -> {
            Desk desk = new Desk().own("a", 0, 0).own("b", 1, 0).own("c", 2, 0).own("d", 3, 0);
            desk.style(0, "b", "a").style(0, "c", "b").style(0, "d", "c").style(0, "c", "d");
            Edge.due("behind the second one", corrected(desk.write("a")), "-1 c");
            Desk first = new Desk().own("a", 0, 0).own("b", 1, 0).own("c", 2, 0);
            first.style(0, "b", "a").style(0, "c", "b").style(0, "b", "c");
            Edge.due("behind the first one", corrected(first.write("a")), "-1 b");
        });
        Edge.holds("behind one of the changes before: by words and styles", () -> {
            Desk desk = new Desk().own("aaaa", 0, 0).own("hhhh", 1, 0).style(0, "hhhhh", "aaaa").style(0, "aaaaa", "hhhh");
            Edge.due("ring of four", corrected(desk.write("aaaa")), "-1 aaaa");
            Edge.due("from a wrong word on", corrected(desk.rewrite("aaaaa")), "-1 aaaaa");
            Edge.due("from another wrong word on", corrected(desk.rewrite("aaaab")), "-1 aaaa");
        });
        Edge.holds("as it was: all of the text, not only the word", () -> {
            Desk desk = new Desk().own("a", 0, 0).own("b", 1, 0).style(0, "b", "a").write("a a.a");
            Edge.due("three times the same change", corrected(desk), "3 b b.b");
            Desk sizes = new Desk().own("a", 0, 0).own("aa", 1, 0).style(0, "aa", "a").write("a a");
            Edge.due("of other sizes", corrected(sizes), "2 aa aa");
        });
    }

    private static void ringsByTheTwentieth() {
        Edge.holds("and it ends in a ring, also by the 20th change", () -> {
            for (int wrong = 16; wrong <= 20; wrong++) {
                Desk one = new Desk().own("aa", 0, 0).style(0, "aa", "aa").write(many("ab", wrong));
                Edge.due(wrong + " changes, then what is there", one.x().correct(), wrong < 20 ? -1 : 20);
                Desk two = new Desk().own("aa", 0, 0).own("hhh", 1, 0).style(0, "hhh", "aa").style(0, "aa", "hhh");
                Edge.due(wrong + " changes, then two", two.write(many("ab", wrong)).x().correct(), wrong < 19 ? -1 : 20);
            }
        });
        Edge.holds("also by the 20th change, if the text is as it was when it began", () -> {
            Edge.due("ring of 12", corrected(ringOf(12)), "-1 aaaa bbbb");
            Edge.due("ring of 19", corrected(ringOf(19)), "-1 aaaa bbbb");
            Edge.due("ring of 20", corrected(ringOf(20)), "-1 aaaa bbbb");
            Edge.due("ring of 21", corrected(ringOf(21)), "20 aaaa bbbbb");
        });
        Edge.holds("also by the 20th change, behind one of the changes before: the first one", () -> {
            Edge.due("one change, then a ring of 19", corrected(ringOf(19).rewrite("aaaa bbbbbb")), "-1 aaaa bbbb");
            Edge.due("one change, then a ring of 20", corrected(ringOf(20).rewrite("aaaa bbbbbb")), "20 aaaa bbbbb");
        });
    }

    /**
     * Two words, of which the first one turns about between two, and the second one goes round among six, by
     * turns: a ring of 12 changes. A style that puts in a word of a letter too many, which is then
     * corrected, takes two changes in place of one: the one for the first word three times a ring, any other one once.
     */
    private static Desk ringOf(int changes) {
        Desk desk = new Desk().own("aaaa", 0, 0).own("hhhh", 0, 0);
        String letters = "bcdefg";
        for (int i = 0; i < 6; i++) {
            desk.own(letters.substring(i, i + 1).repeat(4), 1 + i % 2, 0);
        }
        int more = changes - 12;
        boolean isFirstDouble = more >= 3;
        int doubles = isFirstDouble ? more - 3 : more;
        desk.style(0, "h".repeat(isFirstDouble ? 5 : 4), "aaaa", "1").style(0, "aaaa", "hhhh", "2");
        for (int i = 0; i < 6; i++) {
            String next = letters.substring((i + 1) % 6, (i + 1) % 6 + 1);
            boolean isDouble = 5 - i < doubles;
            desk.style(1, next.repeat(isDouble ? 5 : 4), i % 2 == 0 ? "hhhh" : "aaaa", letters.substring(i, i + 1).repeat(4));
        }
        return desk.write("aaaa bbbb");
    }
}
