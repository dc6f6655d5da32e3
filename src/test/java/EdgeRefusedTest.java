import java.util.function.Supplier;

/**
 * The rows of the document that begin with 'Throws', and its sentences on exceptions. Behind each refused
 * call the whole object is compared with one on which the call was not made.
 */
public final class EdgeRefusedTest {
    private static final int NONE = SpellScribe.NONE;
    private static final char ANY = ' ';
    private static final int LEAST = Integer.MIN_VALUE;
    private static final int MOST = Integer.MAX_VALUE;
    private static final char[] NO_LETTERS = {'`', 'i', ' ', '.', '<', '>', 'A', 'H', 0, 65535, 'a' + 256, 'h' + 32768};
    private static final String TEN = "abcdefghab";

    public static void main(String[] args) {
        letters();
        stems();
        rules();
        rulesByTheirDraft();
        moreFlags();
        sounds();
        ownWords();
        barredWords();
        ignoredWords();
        toldKinds();
        items();
        styles();
        signsPutIn();
        signsTakenOut();
        places();
        words();
        mistakes();
        suggestions();
        emptyObjects();
        Edge.end("EdgeRefusedTest");
    }

    /** An object with something of everything; but nothing is drafted. */
    private static Desk busy() {
        Desk desk = new Desk().stem("bad", 3, 0, 0, SpellScribe.JOINABLE).stem("cab", 0, 1, 1, SpellScribe.JOINS_ONLY);
        desk.stem("gab", 0, 1, 0, SpellScribe.NEVER).stem("fed", 1, 2, 0, 0);
        desk.rule(0, true, 0, 'd', "e", 1, 1).rule(2, true, 1, ANY, "g", NONE, 0).rule(1, false, 0, ANY, "h", 3, NONE);
        desk.more(0, 4).sound('a', 'h').own("dde", 3, 1).bar("fed").tell(0, 1, SpellScribe.APART).tell(1, 1, SpellScribe.AGREE);
        desk.style(0, "bad", "3").write("bda bade.bad gab fed<a>def.hbad bad");
        return desk.ignore(0, 2).ignore(5, 1).items("1", "gab");
    }

    private static Supplier<Desk> drafted(String word) {
        return () -> busy().draft(word);
    }

    private static Desk withStems() {
        Desk desk = busy();
        for (int i = 4; i < 12; i++) {
            desk.stem("ab" + TEN.charAt(i - 4), 1, 0, 0, 0);
        }
        return desk;
    }

    private static Desk withRules() {
        Desk desk = busy();
        for (int i = 3; i < 8; i++) {
            desk.ending(i - 3, 0, TEN.substring(i - 3, i - 2));
        }
        return desk;
    }

    private static Desk withOwn() {
        Desk desk = busy();
        for (int i = 1; i < 10; i++) {
            desk.own("h" + TEN.charAt(i - 1) + (i == 9 ? "a" : ""), 0, 0);
        }
        return desk;
    }

    private static Desk withBarred() {
        Desk desk = busy();
        for (int i = 1; i < 10; i++) {
            desk.bar("g" + TEN.charAt(i - 1) + (i == 9 ? "a" : ""));
        }
        return desk;
    }

    private static Desk withStyles() {
        Desk desk = busy().draft("h");
        desk.x().style(0);
        for (int i = 2; i < 8; i++) {
            desk.style(0, "bad", "bade");
        }
        return desk.items("2", "0");
    }

    private static Desk withSigns() {
        Desk desk = busy();
        return desk.write(".ab<cd>.ef gab hbad".repeat(4).substring(0, 100 - desk.x().length()));
    }

    private static void letters() {
        Edge.holds("letter: Throws IllegalArgumentException if letter is out of range", () -> {
            for (char letter : NO_LETTERS) {
                Edge.refused("letter " + (int) letter, Edge.RANGE, drafted("ab"), x -> x.letter(letter));
            }
            Edge.refused("the first letter", Edge.RANGE, EdgeRefusedTest::busy, x -> x.letter('i'));
        });
        Edge.holds("letter: Throws IllegalStateException if there are 10", () -> {
            for (char letter = 'a'; letter <= 'h'; letter++) {
                char eleventh = letter;
                Edge.refused("letter " + letter, Edge.STATE, drafted(TEN), x -> x.letter(eleventh));
            }
            Edge.due("with 9", busy().draft(TEN.substring(1)).x().letter('h'), 10);
        });
        Edge.holds("letter: If several apply, the one that is named first in the throws clause is thrown", () ->
            Edge.refused("out of range, with 10", Edge.RANGE, drafted(TEN), x -> x.letter('i')));
    }

    private static void stems() {
        int[][] bad = {{-1, 0, 0, 0}, {64, 0, 0, 0}, {LEAST, 0, 0, 0}, {MOST, 0, 0, 0}, {0, -1, 0, 0}, {0, 4, 0, 0}, {0, LEAST, 0, 0},
            {0, MOST, 0, 0}, {0, 0, -1, 0}, {0, 0, 2, 0}, {0, 0, LEAST, 0}, {0, 0, MOST, 0}, {0, 0, 0, -1}, {0, 0, 0, 8}, {0, 0, 0, LEAST},
            {0, 0, 0, MOST}, {64, 4, 2, 8}};
        Edge.holds("stem: Throws IllegalArgumentException if flags, kind, form or is is out of range", () -> {
            for (int[] b : bad) {
                Edge.refused("stem", Edge.RANGE, drafted("ab"), x -> x.stem(b[0], b[1], b[2], b[3]));
            }
            Edge.due("just inside", busy().draft("ab").x().stem(63, 3, 1, 7), 4);
        });
        Edge.holds("stem: Throws IllegalStateException if nothing is drafted", () ->
            Edge.refused("stem", Edge.STATE, EdgeRefusedTest::busy, x -> x.stem(63, 3, 1, 7)));
        Edge.holds("stem: Throws IllegalStateException if there are 12", () -> {
            Edge.refused("stem", Edge.STATE, () -> withStems().draft("ab"), x -> x.stem(0, 0, 0, 0));
            Edge.refused("without a draft", Edge.STATE, EdgeRefusedTest::withStems, x -> x.stem(0, 0, 0, 0));
        });
        Edge.holds("stem: If several apply, the one that is named first in the throws clause is thrown", () -> {
            for (int[] b : bad) {
                Edge.thrown("nothing drafted", Edge.RANGE, busy(), x -> x.stem(b[0], b[1], b[2], b[3]));
                Edge.thrown("12 stems", Edge.RANGE, withStems().draft("ab"), x -> x.stem(b[0], b[1], b[2], b[3]));
            }
            Edge.refused("12 stems", Edge.RANGE, () -> withStems().draft("ab"), x -> x.stem(0, 0, 2, 0));
        });
    }

    private static void rules() {
        int[][] bad = {{-1, 0, 0, 0}, {6, 0, 0, 0}, {LEAST, 0, 0, 0}, {MOST, 0, 0, 0}, {0, -1, 0, 0}, {0, 3, 0, 0}, {0, LEAST, 0, 0},
            {0, MOST, 0, 0}, {0, 0, -2, 0}, {0, 0, 4, 0}, {0, 0, LEAST, 0}, {0, 0, MOST, 0}, {0, 0, 0, -2}, {0, 0, 0, 2}, {0, 0, 0, LEAST},
            {0, 0, 0, MOST}};
        Edge.holds("rule: Throws IllegalArgumentException if flag, strip, kind or form is out of range", () -> {
            for (int[] b : bad) {
                Edge.refused("ending", Edge.RANGE, drafted("ab"), x -> x.rule(b[0], true, b[1], ANY, b[2], b[3]));
                Edge.thrown("beginning", Edge.RANGE, busy().draft("ab"), x -> x.rule(b[0], false, b[1], ANY, b[2], b[3]));
            }
            Edge.due("just inside", busy().draft("ab").x().rule(5, true, 2, 'h', 3, 1), 3);
            Edge.due("just inside", busy().draft("ab").x().rule(0, false, 0, 'a', NONE, NONE), 3);
        });
        Edge.holds("rule: Throws IllegalArgumentException if with is out of range", () -> {
            for (char with : NO_LETTERS) {
                if (with != ANY) {
                    Edge.refused("with " + (int) with, Edge.RANGE, drafted("ab"), x -> x.rule(0, true, 0, with, 0, 0));
                    Edge.thrown("with " + (int) with, Edge.RANGE, busy().draft("ab"), x -> x.rule(0, false, 0, with, 0, 0));
                }
            }
        });
        Edge.holds("rule: If several apply, the one that is named first in the throws clause is thrown", () -> {
            for (int[] b : bad) {
                Edge.thrown("nothing drafted", Edge.RANGE, busy(), x -> x.rule(b[0], true, b[1], ANY, b[2], b[3]));
                Edge.thrown("five drafted", Edge.RANGE, busy().draft("abcde"), x -> x.rule(b[0], true, b[1], ANY, b[2], b[3]));
                Edge.thrown("8 rules", Edge.RANGE, withRules().draft("ab"), x -> x.rule(b[0], false, b[1], ANY, b[2], b[3]));
            }
            Edge.refused("nothing drafted, nor stripped", Edge.RANGE, EdgeRefusedTest::busy, x -> x.rule(0, true, 0, 'i', 0, 0));
            Edge.refused("five drafted", Edge.RANGE, drafted("abcde"), x -> x.rule(0, true, 3, ANY, 0, 0));
            Edge.refused("8 rules", Edge.RANGE, () -> withRules().draft("ab"), x -> x.rule(6, true, 0, ANY, 0, 0));
        });
    }

    private static void rulesByTheirDraft() {
        Edge.holds("rule: Throws IllegalStateException if more than 4 letters are drafted", () -> {
            for (int size = 5; size <= 10; size++) {
                Edge.refused(size + " letters", Edge.STATE, drafted(TEN.substring(0, size)), x -> x.rule(0, true, 2, ANY, 0, 0));
            }
            Edge.due("4 letters", busy().draft("abcd").x().rule(0, true, 0, ANY, 0, 0), 3);
        });
        Edge.holds("rule: Throws IllegalStateException if none are, and none are stripped", () -> {
            Edge.refused("ending", Edge.STATE, EdgeRefusedTest::busy, x -> x.rule(0, true, 0, ANY, 0, 0));
            Edge.refused("beginning", Edge.STATE, EdgeRefusedTest::busy, x -> x.rule(0, false, 0, 'a', NONE, NONE));
            Edge.due("one stripped", busy().x().rule(0, false, 1, ANY, 0, 0), 3);
            Edge.due("one drafted", busy().draft("a").x().rule(0, false, 0, ANY, 0, 0), 3);
        });
        Edge.holds("rule: Throws IllegalStateException if there are 8", () -> {
            Edge.refused("ending", Edge.STATE, () -> withRules().draft("ab"), x -> x.rule(0, true, 0, ANY, 0, 0));
            Edge.refused("beginning", Edge.STATE, () -> withRules().draft("ab"), x -> x.rule(0, false, 0, ANY, 0, 0));
            Edge.refused("one that only strips", Edge.STATE, EdgeRefusedTest::withRules, x -> x.rule(0, true, 2, ANY, 0, 0));
        });
    }

    private static void moreFlags() {
        Edge.holds("more: Throws IndexOutOfBoundsException if there is no such rule", () -> {
            for (int rule : new int[] {-1, 3, 8, LEAST, MOST}) {
                Edge.refused("rule " + rule, Edge.INDEX, drafted("ab"), x -> x.more(rule, 1));
            }
            Edge.refused("behind eight", Edge.INDEX, EdgeRefusedTest::withRules, x -> x.more(8, 1));
            Edge.due("the last one", withRules().x().more(7, 1), 0);
        });
        Edge.holds("more: Throws IllegalArgumentException if flags is out of range", () -> {
            for (int flags : new int[] {-1, 64, LEAST, MOST}) {
                Edge.refused("flags " + flags, Edge.RANGE, drafted("ab"), x -> x.more(0, flags));
            }
            Edge.due("just inside", busy().x().more(0, 63) + " " + busy().x().more(0, 0), "4 4");
        });
        Edge.holds("more: Throws IllegalStateException if it is not for endings", () -> {
            for (int flags : new int[] {0, 1, 63}) {
                Edge.refused("flags " + flags, Edge.STATE, drafted("ab"), x -> x.more(2, flags));
            }
        });
        Edge.holds("more: If several apply, the one that is named first in the throws clause is thrown", () -> {
            Edge.refused("no rule, no flags", Edge.INDEX, drafted("ab"), x -> x.more(3, 64));
            Edge.refused("no rule, no flags", Edge.INDEX, drafted("ab"), x -> x.more(-1, -1));
            Edge.refused("no flags, no ending", Edge.RANGE, drafted("ab"), x -> x.more(2, 64));
        });
    }

    private static void sounds() {
        Edge.holds("sound: Throws IllegalArgumentException if one or other is out of range", () -> {
            for (char letter : NO_LETTERS) {
                Edge.refused("one " + (int) letter, Edge.RANGE, drafted("ab"), x -> x.sound(letter, 'b'));
                Edge.refused("other " + (int) letter, Edge.RANGE, drafted("ab"), x -> x.sound('b', letter));
            }
            Edge.refused("both, alike", Edge.RANGE, drafted("ab"), x -> x.sound('i', 'i'));
        });
        Edge.holds("sound: or both are the same", () -> {
            for (char letter = 'a'; letter <= 'h'; letter++) {
                char same = letter;
                Edge.refused("both " + letter, Edge.RANGE, drafted("ab"), x -> x.sound(same, same));
            }
        });
    }

    private static void ownWords() {
        int[][] bad = {{-1, 0}, {4, 0}, {LEAST, 0}, {MOST, 0}, {0, -1}, {0, 2}, {0, LEAST}, {0, MOST}};
        Edge.holds("own: Throws IllegalArgumentException if kind or form is out of range", () -> {
            for (int[] b : bad) {
                Edge.refused("own", Edge.RANGE, drafted("ab"), x -> x.own(b[0], b[1]));
                Edge.refused("of a barred word", Edge.RANGE, drafted("fed"), x -> x.own(b[0], b[1]));
                Edge.refused("of an own word", Edge.RANGE, drafted("dde"), x -> x.own(b[0], b[1]));
            }
            Edge.due("just inside", busy().draft("ab").x().own(3, 1), 2);
        });
        Edge.holds("own: Throws IllegalStateException if nothing is drafted", () ->
            Edge.refused("own", Edge.STATE, EdgeRefusedTest::busy, x -> x.own(0, 0)));
        Edge.holds("own: Throws IllegalStateException if there are 10 others", () -> {
            Edge.refused("own", Edge.STATE, () -> withOwn().draft("ab"), x -> x.own(0, 0));
            Edge.refused("of a barred word, which stays barred", Edge.STATE, () -> withOwn().draft("fed"), x -> x.own(0, 0));
            Edge.due("of one of them", withOwn().draft("dde").x().own(0, 0), 10);
        });
        Edge.holds("own: If several apply, the one that is named first in the throws clause is thrown", () -> {
            for (int[] b : bad) {
                Edge.thrown("nothing drafted", Edge.RANGE, busy(), x -> x.own(b[0], b[1]));
                Edge.thrown("10 others", Edge.RANGE, withOwn().draft("ab"), x -> x.own(b[0], b[1]));
            }
            Edge.refused("nothing drafted", Edge.RANGE, EdgeRefusedTest::busy, x -> x.own(4, 0));
        });
    }

    private static void barredWords() {
        Edge.holds("bar: Throws IllegalStateException if nothing is drafted", () ->
            Edge.refused("bar", Edge.STATE, EdgeRefusedTest::busy, x -> x.bar()));
        Edge.holds("bar: Throws IllegalStateException if 10 others are barred", () -> {
            Edge.refused("bar", Edge.STATE, () -> withBarred().draft("ab"), x -> x.bar());
            Edge.refused("of an own word, which stays one", Edge.STATE, () -> withBarred().draft("dde"), x -> x.bar());
            Edge.due("of one of them", withBarred().draft("fed").x().bar(), 10);
        });
    }

    private static void ignoredWords() {
        Edge.holds("ignore: Throws IndexOutOfBoundsException if there is no such word", () -> {
            for (int word : new int[] {-1, 8, 50, LEAST, MOST}) {
                Edge.refused("word " + word, Edge.INDEX, drafted("ab"), x -> x.ignore(word));
            }
            Edge.due("words", busy().x().words(), 8);
        });
        Edge.holds("ignore: Throws IllegalStateException if it is right", () -> {
            Edge.refused("a made word", Edge.STATE, drafted("ab"), x -> x.ignore(1));
            Edge.refused("the last word", Edge.STATE, drafted("ab"), x -> x.ignore(7));
            Edge.refused("an own word", Edge.STATE, () -> busy().own("bda", 1, 1), x -> x.ignore(0));
            Edge.refused("a join", Edge.STATE, () -> busy().write(" badcab"), x -> x.ignore(8));
        });
        Edge.holds("ignore: Throws IllegalStateException if it has more than 10 letters", () -> {
            Edge.refused("eleven", Edge.STATE, () -> busy().write(" " + TEN + "c"), x -> x.ignore(8));
            Edge.refused("fifty", Edge.STATE, () -> busy().write(" " + TEN.repeat(5)), x -> x.ignore(8));
            Edge.due("ten", busy().write(" " + TEN).x().ignore(8), 1);
        });
        Edge.holds("ignore: Throws IllegalStateException if it is barred", () -> {
            Edge.refused("a made word", Edge.STATE, drafted("ab"), x -> x.ignore(4));
            Edge.refused("an ignored word", Edge.STATE, () -> busy().bar("bda"), x -> x.ignore(0));
            Edge.due("another one", busy().x().ignore(0), 0);
        });
    }

    private static void toldKinds() {
        Edge.holds("tell: Throws IllegalArgumentException if first, second or what is out of range", () -> {
            for (int bad : new int[] {-1, 4, LEAST, MOST}) {
                Edge.refused("first " + bad, Edge.RANGE, drafted("ab"), x -> x.tell(bad, 1, 1));
                Edge.refused("second " + bad, Edge.RANGE, drafted("ab"), x -> x.tell(0, bad, 1));
            }
            for (int bad : new int[] {-1, 3, LEAST, MOST}) {
                Edge.refused("what " + bad, Edge.RANGE, drafted("ab"), x -> x.tell(0, 1, bad));
            }
            Edge.due("just inside", busy().x().tell(3, 3, 2) + " " + busy().x().tell(0, 0, 0), "0 0");
        });
    }

    private static void items() {
        Edge.holds("item: Throws IllegalArgumentException if kind is out of range", () -> {
            for (int kind : new int[] {-2, 4, LEAST, MOST}) {
                Edge.refused("kind " + kind, Edge.RANGE, drafted("ab"), x -> x.item(kind));
            }
            Edge.due("just inside", busy().x().item(3) + " " + busy().draft("ab").x().item(NONE), "3 3");
        });
        Edge.holds("item: Throws IllegalStateException if it has 3", () -> {
            Edge.refused("a kind", Edge.STATE, () -> busy().items("2").draft("ab"), x -> x.item(0));
            Edge.refused("a word", Edge.STATE, () -> busy().items("2").draft("ab"), x -> x.item(NONE));
            Edge.refused("of words", Edge.STATE, () -> busy().items("ab").draft("ab"), x -> x.item(3));
        });
        Edge.holds("item: Throws IllegalStateException if kind is NONE, and nothing is drafted", () -> {
            Edge.refused("a word", Edge.STATE, EdgeRefusedTest::busy, x -> x.item(NONE));
            Edge.refused("the first one", Edge.STATE, () -> busy().draft("a").style(0, "b", "c"), x -> x.item(NONE));
        });
        Edge.holds("item: If several apply, the one that is named first in the throws clause is thrown", () -> {
            for (int kind : new int[] {-2, 4}) {
                Edge.refused("with 3", Edge.RANGE, () -> busy().items("2").draft("ab"), x -> x.item(kind));
                Edge.refused("nothing drafted", Edge.RANGE, EdgeRefusedTest::busy, x -> x.item(kind));
            }
        });
    }

    private static void styles() {
        Edge.holds("style: Throws IllegalStateException if the style has no items", () -> {
            Supplier<Desk> none = () -> {
                Desk desk = busy().draft("h");
                desk.x().style(1);
                return desk.draft("ab");
            };
            for (int place : new int[] {0, -1, 1, 3, LEAST, MOST}) {
                Edge.refused("place " + place, Edge.STATE, none, x -> x.style(place));
            }
        });
        Edge.holds("style: Throws IllegalStateException if nothing is drafted", () -> {
            for (int place : new int[] {0, 1, 2, -1, MOST}) {
                Edge.refused("place " + place, Edge.STATE, EdgeRefusedTest::busy, x -> x.style(place));
            }
        });
        Edge.holds("style: Throws IllegalStateException if there are 8", () -> {
            for (int place : new int[] {0, 1, 2, -1, MOST}) {
                Edge.refused("place " + place, Edge.STATE, () -> withStyles().draft("ab"), x -> x.style(place));
            }
        });
        Edge.holds("style: Throws IndexOutOfBoundsException if it has items, and there is no such place", () -> {
            for (int place : new int[] {-1, 2, 3, LEAST, MOST}) {
                Edge.refused("place " + place, Edge.INDEX, drafted("ab"), x -> x.style(place));
            }
            Edge.refused("of three items", Edge.INDEX, () -> busy().items("0").draft("ab"), x -> x.style(3));
            Edge.due("just inside", busy().draft("ab").x().style(0) + " " + busy().draft("ab").x().style(1), "1 1");
        });
    }

    private static void signsPutIn() {
        char[] bad = {'`', 'i', '!', '-', '/', ';', '=', '?', 0, 'A', 65535, 'a' + 256, '.' + 256, ' ' + 256, '<' + 32768};
        Edge.holds("put: Throws IndexOutOfBoundsException if there is no such place", () -> {
            int size = busy().x().length();
            for (int place : new int[] {-1, size + 1, 100, 101, LEAST, MOST}) {
                Edge.refused("place " + place, Edge.INDEX, drafted("ab"), x -> x.put(place, 'a'));
            }
            Edge.due("just inside", busy().x().put(size, 'a') + " " + busy().x().put(0, 'a'), "2 2");
        });
        Edge.holds("put: Throws IllegalArgumentException if sign is none of these", () -> {
            for (char sign : bad) {
                Edge.refused("sign " + (int) sign, Edge.RANGE, drafted("ab"), x -> x.put(4, sign));
            }
        });
        Edge.holds("put: Throws IllegalStateException if there are 100", () -> {
            Edge.due("signs", withSigns().x().length(), 100);
            for (int place : new int[] {0, 50, 99, 100}) {
                Edge.refused("place " + place, Edge.STATE, EdgeRefusedTest::withSigns, x -> x.put(place, 'a'));
            }
            Edge.refused("a blank", Edge.STATE, EdgeRefusedTest::withSigns, x -> x.put(3, ' '));
        });
        Edge.holds("put: If several apply, the one that is named first in the throws clause is thrown", () -> {
            Edge.refused("no place, no sign", Edge.INDEX, drafted("ab"), x -> x.put(-1, 'i'));
            Edge.refused("no place, no sign, 100", Edge.INDEX, EdgeRefusedTest::withSigns, x -> x.put(101, 'i'));
            Edge.refused("no place, 100", Edge.INDEX, EdgeRefusedTest::withSigns, x -> x.put(-1, 'a'));
            Edge.refused("no sign, 100", Edge.RANGE, EdgeRefusedTest::withSigns, x -> x.put(100, 'i'));
        });
    }

    private static void signsTakenOut() {
        Edge.holds("take: Throws IndexOutOfBoundsException if there is no such place", () -> {
            int size = busy().x().length();
            for (int place : new int[] {-1, size, size + 1, 99, 100, LEAST, MOST}) {
                Edge.refused("place " + place, Edge.INDEX, drafted("ab"), x -> x.take(place));
            }
            Edge.refused("behind 100", Edge.INDEX, EdgeRefusedTest::withSigns, x -> x.take(100));
            Edge.due("just inside", busy().x().take(size - 1) + " " + busy().x().take(0), "2 2");
        });
    }

    private static void places() {
        Edge.holds("signAt: Throws IndexOutOfBoundsException if there is no such place", () -> {
            int size = busy().x().length();
            for (int place : new int[] {-1, size, size + 1, 99, 100, LEAST, MOST}) {
                Edge.refused("place " + place, Edge.INDEX, drafted("ab"), x -> x.signAt(place));
            }
            Edge.refused("behind 100", Edge.INDEX, EdgeRefusedTest::withSigns, x -> x.signAt(100));
            Edge.due("just inside", busy().x().signAt(0) + "" + busy().x().signAt(size - 1), "bd");
        });
        Edge.holds("wordAt: Throws IndexOutOfBoundsException if there is no such word", () ->
            noSuchWord((x, word) -> x.wordAt(word)));
    }

    interface WordCall {
        Object on(SpellScribe x, int word);
    }

    private static void noSuchWord(WordCall call) {
        for (int word : new int[] {-1, 8, 9, 50, LEAST, MOST}) {
            Edge.refused("word " + word, Edge.INDEX, drafted("ab"), x -> call.on(x, word));
        }
        Edge.refused("of none", Edge.INDEX, () -> new Desk().write(" .<a"), x -> call.on(x, 0));
        for (int word = 0; word < 8; word++) {
            int inside = word;
            String answer = Edge.outcome(busy().x(), x -> call.on(x, inside));
            Edge.due("an answer for word " + word, answer.contains("Exception"), false);
        }
    }

    private static void words() {
        Edge.holds("isRight: Throws IndexOutOfBoundsException if there is no such word", () ->
            noSuchWord((x, word) -> x.isRight(word)));
        Edge.holds("readings: Throws IndexOutOfBoundsException if there is no such word", () ->
            noSuchWord((x, word) -> x.readings(word)));
        Edge.holds("reading: Throws IndexOutOfBoundsException if there is no such word", () ->
            noSuchWord((x, word) -> x.reading(word)));
        Edge.holds("split: Throws IndexOutOfBoundsException if there is no such word", () ->
            noSuchWord((x, word) -> x.split(word)));
        Edge.holds("suggestions: Throws IndexOutOfBoundsException if there is no such word", () ->
            noSuchWord((x, word) -> x.suggestions(word)));
        Edge.holds("suggestionsByAll: Throws IndexOutOfBoundsException if there is no such word", () ->
            noSuchWord((x, word) -> x.suggestionsByAll(word)));
        Edge.holds("cost: Throws IndexOutOfBoundsException if there is no such word", () ->
            noSuchWord((x, word) -> x.cost(word, 0)));
        Edge.holds("suggested: Throws IndexOutOfBoundsException if there is no such word", () ->
            noSuchWord((x, word) -> x.suggested(word, 0, 0)));
    }

    private static void mistakes() {
        Edge.holds("mistakeKind, mistakeAt: Throws IndexOutOfBoundsException if there are not so many", () -> {
            int count = busy().x().mistakes();
            Edge.due("mistakes", busy().mistakes(), "W0 B3 W4 W5 S6");
            for (int mistake : new int[] {-1, count, count + 1, 100, LEAST, MOST}) {
                Edge.refused("kind of " + mistake, Edge.INDEX, drafted("ab"), x -> x.mistakeKind(mistake));
                Edge.refused("word of " + mistake, Edge.INDEX, drafted("ab"), x -> x.mistakeAt(mistake));
            }
            Edge.refused("kind, of none", Edge.INDEX, Desk::new, x -> x.mistakeKind(0));
            Edge.refused("word, of none", Edge.INDEX, Desk::new, x -> x.mistakeAt(0));
        });
    }

    private static void suggestions() {
        Edge.holds("cost: Throws IndexOutOfBoundsException if there is no such suggestion", () -> {
            int count = busy().x().suggestions(0);
            Edge.due("some", count > 0, true);
            for (int suggestion : new int[] {-1, count, count + 1, LEAST, MOST}) {
                Edge.refused("suggestion " + suggestion, Edge.INDEX, drafted("ab"), x -> x.cost(0, suggestion));
            }
            Edge.refused("of none", Edge.INDEX, () -> new Desk().write("ab"), x -> x.cost(0, 0));
            Edge.refused("no word either", Edge.INDEX, drafted("ab"), x -> x.cost(-1, -1));
            Edge.due("just inside", busy().x().cost(0, count - 1) <= 4, true);
        });
        Edge.holds("suggested: Throws IndexOutOfBoundsException if there is no such suggestion, or place is below 0", () -> {
            int count = busy().x().suggestions(0);
            for (int suggestion : new int[] {-1, count, count + 1, LEAST, MOST}) {
                Edge.refused("suggestion " + suggestion, Edge.INDEX, drafted("ab"), x -> x.suggested(0, suggestion, 0));
            }
            for (int place : new int[] {-1, -2, LEAST}) {
                Edge.refused("place " + place, Edge.INDEX, drafted("ab"), x -> x.suggested(0, 0, place));
            }
            Edge.refused("of none", Edge.INDEX, () -> new Desk().write("ab"), x -> x.suggested(0, 0, 0));
            Edge.refused("of none, far behind", Edge.INDEX, () -> new Desk().write("ab"), x -> x.suggested(0, 0, MOST));
            for (int place : new int[] {10, 100, MOST}) {
                Edge.due("place " + place, busy().x().suggested(0, count - 1, place), ' ');
            }
        });
    }

    private static void emptyObjects() {
        Edge.holds("A call that throws an exception changes nothing: of a new object", () -> {
            Edge.refused("letter", Edge.RANGE, Desk::new, x -> x.letter('i'));
            Edge.refused("stem", Edge.STATE, Desk::new, x -> x.stem(0, 0, 0, 0));
            Edge.refused("rule", Edge.STATE, Desk::new, x -> x.rule(0, true, 0, ANY, 0, 0));
            Edge.refused("more", Edge.INDEX, Desk::new, x -> x.more(0, 0));
            Edge.refused("sound", Edge.RANGE, Desk::new, x -> x.sound('a', 'a'));
            Edge.refused("own", Edge.STATE, Desk::new, x -> x.own(0, 0));
            Edge.refused("bar", Edge.STATE, Desk::new, x -> x.bar());
            Edge.refused("ignore", Edge.INDEX, Desk::new, x -> x.ignore(0));
            Edge.refused("tell", Edge.RANGE, Desk::new, x -> x.tell(0, 0, 3));
            Edge.refused("item", Edge.STATE, Desk::new, x -> x.item(NONE));
            Edge.refused("style", Edge.STATE, Desk::new, x -> x.style(0));
            Edge.refused("put", Edge.INDEX, Desk::new, x -> x.put(1, 'a'));
            Edge.refused("take", Edge.INDEX, Desk::new, x -> x.take(0));
            Edge.refused("signAt", Edge.INDEX, Desk::new, x -> x.signAt(0));
        });
    }
}
