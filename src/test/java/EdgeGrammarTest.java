/** Sentences of the document on readings, styles and mistakes: promises 11 to 13, 23 and 25 to 27. */
public final class EdgeGrammarTest {
    private static final int NONE = SpellScribe.NONE;
    private static final int FREE = SpellScribe.FREE;
    private static final int AGREE = SpellScribe.AGREE;
    private static final int APART = SpellScribe.APART;

    public static void main(String[] args) {
        told();
        neighbours();
        wrongWords();
        choices();
        choicesFarAhead();
        leastReadings();
        longSentences();
        items();
        styles();
        whereStylesFit();
        whichStylesAreTaken();
        mistakes();
        lastWord();
        mostMistakes();
        Edge.end("EdgeGrammarTest");
    }

    private static void told() {
        Edge.holds("Returns what was told before; FREE at first", () -> {
            Desk desk = new Desk();
            int[] whats = {APART, AGREE, FREE, AGREE, AGREE, APART, APART, FREE, FREE, APART};
            int before = FREE;
            for (int what : whats) {
                for (int first = 0; first <= 3; first++) {
                    for (int second = 0; second <= 3; second++) {
                        Edge.due(first + ", " + second, desk.x().tell(first, second, what), before);
                    }
                }
                before = what;
            }
        });
        Edge.holds("Tells of two kinds: of these two, in this order, and of no others", () -> {
            Desk desk = new Desk();
            for (int pair = 0; pair < 16; pair++) {
                Edge.due("pair " + pair, desk.x().tell(pair / 4, pair % 4, 1 + pair % 2), FREE);
            }
            for (int pair = 0; pair < 16; pair++) {
                Edge.due("pair " + pair, desk.x().tell(pair / 4, pair % 4, FREE), 1 + pair % 2);
            }
        });
        Edge.holds("broken, if they have to AGREE and their forms are unlike, or if they have to be APART", () -> {
            for (int told = 0; told < 48; told++) {
                int first = told % 4;
                int second = told / 4 % 4;
                int what = told / 16;
                Desk desk = new Desk().tell(first, second, what).write("a b");
                for (int forms = 0; forms < 4; forms++) {
                    desk.own("a", first, forms % 2).own("b", second, forms / 2);
                    boolean isBroken = what == APART || (what == AGREE && forms % 2 != forms / 2);
                    Edge.due("told " + told + ", forms " + forms, desk.mistakes(), isBroken ? "B1" : "");
                }
            }
        });
        Edge.holds("the first one being of a kind and the second one of a kind", () -> {
            for (int pair = 0; pair < 16; pair++) {
                Desk desk = new Desk().tell(pair / 4, pair % 4, APART).write("a b c d a c b d d");
                StringBuilder due = new StringBuilder();
                int[] kinds = {0, 1, 2, 3, 0, 2, 1, 3, 3};
                for (int kind = 0; kind <= 3; kind++) {
                    desk.own("" + (char) ('a' + kind), kind, kind % 2);
                }
                for (int i = 1; i < kinds.length; i++) {
                    if (kinds[i - 1] == pair / 4 && kinds[i] == pair % 4) {
                        due.append(due.length() == 0 ? "B" : " B").append(i);
                    }
                }
                Edge.due("pair " + pair, desk.mistakes(), due);
            }
        });
    }

    /** Words a to d of the kinds 0 to 3 with the form 0. */
    private static Desk kinds() {
        return new Desk().own("a", 0, 0).own("b", 1, 0).own("c", 2, 0).own("d", 3, 0);
    }

    private static void neighbours() {
        Edge.holds("Two neighbours of a sentence", () -> {
            Desk desk = kinds().tell(0, 1, APART);
            Edge.due("neighbours", desk.write("a b").mistakes(), "B1");
            Edge.due("of other signs between them", desk.rewrite("a > <c.c>  b").mistakes(), "B1");
            Edge.due("one between them", desk.rewrite("a c b").mistakes(), "");
            Edge.due("two sentences", desk.rewrite("a.b").mistakes(), "");
            Edge.due("the first ones of sentences", desk.rewrite("c a.b.a b").mistakes(), "B4");
            Edge.due("the other way round", desk.rewrite("b a").mistakes(), "");
            Edge.due("again and again", desk.rewrite("a b a b.a b").mistakes(), "B1 B3 B5");
        });
        Edge.holds("Where something is broken by that, the second one is BROKEN", () -> {
            Desk desk = kinds().tell(0, 0, APART).write("a a a");
            Edge.due("three like ones", desk.mistakes(), "B1 B2");
            Edge.due("two", desk.rewrite("a a").mistakes(), "B1");
            Edge.due("one", desk.rewrite("a").mistakes(), "");
            Edge.due("it is right", desk.rewrite("a a").rights(), "++");
        });
    }

    private static void wrongWords() {
        Edge.holds("A word that is not right has the reading of no kind and form, by which nothing is broken", () -> {
            Desk desk = new Desk().own("a", 0, 0).write("a h a h");
            for (int kind = 0; kind <= 3; kind++) {
                desk.tell(0, kind, APART).tell(kind, 0, APART);
            }
            Edge.due("between", desk.mistakes(), "W1 W3");
            Edge.due("ahead", desk.rewrite("h a a").mistakes(), "W0 B2");
            Edge.due("only those", desk.rewrite("h h").mistakes(), "W0 W1");
            Edge.due("of more than ten letters", desk.rewrite("a aaaaaaaaaaa a").mistakes(), "W1");
            Edge.due("a barred one", desk.own("h", 0, 0).bar("h").rewrite("a h a").mistakes(), "W1");
            Edge.due("reading", desk.read(), "00 - 00");
        });
        Edge.holds("NONE if it is not right", () -> {
            Desk desk = new Desk().stems(SpellScribe.JOINS_ONLY, "ab").own("ba", 3, 1).write("ab ba bb");
            Edge.due("readings", desk.read(), "- 31 -");
            Edge.due("reading", desk.x().reading(0), NONE);
            Edge.due("barred", desk.bar("ba").x().reading(1), NONE);
        });
        Edge.holds("Returns twice the kind and the form, together", () -> {
            for (int reading = 0; reading < 8; reading++) {
                Desk desk = new Desk().own("ab", reading / 2, reading % 2).write("ab");
                Edge.due("reading", desk.x().reading(0), reading);
            }
        });
        Edge.holds("by that choice of readings: on both sides of a word that is not right by itself", () -> {
            Desk desk = new Desk().stem("a", 0, 0, 0, 0).stem("a", 0, 1, 0, 0).own("b", 2, 0).tell(0, 2, APART);
            Edge.due("neighbours", desk.write("a b").read(), "10 20");
            Edge.due("not right between them", desk.rewrite("a h b").read(), "00 - 20");
        });
    }

    private static void choices() {
        Edge.holds("by that choice of readings of its words by which the fewest are broken", () -> {
            Desk desk = new Desk().stem("a", 0, 0, 0, 0).stem("a", 0, 0, 1, 0).own("b", 1, 1).own("c", 1, 0).own("d", 2, 0);
            desk.tell(0, 1, AGREE).tell(1, 0, AGREE);
            Edge.due("by the one behind it", desk.write("a b").read(), "01 11");
            Edge.due("by the one ahead of it", desk.rewrite("b a").read(), "11 01");
            Edge.due("by both", desk.rewrite("b a b").read(), "11 01 11");
            Edge.due("by neither", desk.rewrite("a d a").read(), "00 20 00");
            Edge.due("one is broken anyway: the least one", desk.rewrite("b a c").read(), "11 00 10");
            Edge.due("the second one is broken", desk.mistakes(), "B1");
            Edge.due("and the other way round", desk.rewrite("c a b").read() + desk.mistakes(), "10 00 11B2");
        });
        Edge.holds("the fewest are broken: two of three, not the first one alone", () -> {
            Desk desk = new Desk().stem("a", 0, 0, 0, 0).stem("b", 0, 1, 0, 0).stem("b", 0, 1, 1, 0).stem("c", 0, 2, 1, 0);
            desk.stem("d", 0, 3, 1, 0).tell(0, 1, AGREE).tell(1, 2, AGREE).tell(1, 3, APART).tell(2, 3, APART);
            Edge.due("one by each", desk.write("a b c").read() + desk.mistakes(), "00 10 21B2");
            Edge.due("one anyway", desk.rewrite("a b d").read() + desk.mistakes(), "00 10 31B2");
            desk.tell(1, 2, APART);
            Edge.due("both are broken by one", desk.rewrite("a b c").read() + desk.mistakes(), "00 10 21B2");
            Edge.due("each sentence for itself", desk.rewrite("b c.b.a b").read(), "10 21 10 00 10");
        });
        Edge.holds("readings: those of joins and of own words are chosen from, too", () -> {
            Desk desk = new Desk().stem("ab", 0, 0, 0, SpellScribe.JOINABLE).stem("cd", 0, 2, 1, SpellScribe.JOINABLE);
            desk.own("abcd", 1, 0).own("h", 3, 0).tell(1, 3, APART).write("abcd h abcd");
            Edge.due("read", desk.read(), "21 30 10");
        });
    }

    private static void choicesFarAhead() {
        Edge.holds("the fewest are broken: by what stands two words behind, and three", () -> {
            Desk two = new Desk().stem("a", 0, 0, 0, 0).stem("a", 0, 3, 1, 0).stem("b", 0, 1, 0, 0).stem("b", 0, 1, 1, 0).own("c", 2, 1);
            two.tell(3, 1, AGREE).tell(1, 2, AGREE).write("a b c");
            Edge.due("both readings of the first one will do", two.read() + two.mistakes(), "00 11 21");
            Desk three = new Desk().stem("a", 0, 0, 0, 0).stem("a", 0, 3, 1, 0).stem("b", 0, 1, 0, 0).stem("b", 0, 1, 1, 0);
            three.stem("c", 0, 2, 0, 0).stem("c", 0, 2, 1, 0).own("d", 0, 1).tell(0, 1, AGREE).tell(3, 1, AGREE).tell(1, 2, AGREE);
            three.tell(2, 0, AGREE).write("a b c d");
            Edge.due("only one of them will do", three.read() + three.mistakes(), "31 11 21 01");
            Edge.due("with a word ahead of it", three.rewrite("h a b c d").read(), "- 31 11 21 01");
        });
        Edge.holds("the fewest are broken: of each kind and form", () -> {
            for (int kind = 0; kind <= 3; kind++) {
                int ahead = (kind + 1) % 4;
                int behind = (kind + 2) % 4;
                Desk desk = new Desk().own("a", ahead, 1).own("c", behind, 0).tell(ahead, kind, AGREE).tell(kind, behind, AGREE);
                desk.stem("b", 0, kind, 1, 0).stem("b", 0, kind, 0, 0).write("a b c");
                Edge.due("one is broken by each of both, " + kind, desk.read(), ahead + "1 " + kind + "0 " + behind + "0");
                desk.own("c", behind, 1);
                Edge.due("none is broken by one, " + kind, desk.read(), ahead + "1 " + kind + "1 " + behind + "1");
            }
        });
        Edge.holds("A sentence is read: by its own words, not by those of the next one", () -> {
            Desk desk = new Desk().stem("a", 0, 0, 0, 0).stem("a", 0, 0, 1, 0).own("b", 1, 1).tell(0, 1, AGREE).tell(1, 0, AGREE);
            Edge.due("ahead of another sentence", desk.write("a.b").read(), "00 11");
            Edge.due("behind another sentence", desk.rewrite("b.a").read(), "11 00");
            Edge.due("between two", desk.rewrite("b.a.b").read(), "11 00 11");
        });
        Edge.holds("A sentence is read: as it is then, not as it was ahead of an edit", () -> {
            Desk desk = new Desk().stem("b", 0, 1, 0, 0).stem("b", 0, 1, 1, 0).own("c", 2, 1).tell(1, 2, AGREE).write("b c");
            Edge.due("by c", desk.read(), "11 21");
            desk.x().take(2);
            Edge.due("without c", desk.read(), "10");
            desk.write("c");
            Edge.due("with c again", desk.read(), "11 21");
            desk.x().put(1, '.');
            Edge.due("in two sentences", desk.read(), "10 21");
        });
    }

    private static void leastReadings() {
        Edge.holds("of several by the one whose first word has the least reading, by kind, then form", () -> {
            Desk desk = new Desk().stem("a", 0, 3, 1, 0).stem("a", 0, 3, 0, 0).write("a");
            Edge.due("form", desk.read(), "30");
            Edge.due("kind ahead of form", desk.stem("a", 0, 2, 1, 0).read(), "21");
            Edge.due("kind and form", desk.stem("a", 0, 2, 0, 0).read(), "20");
            Edge.due("one between", desk.stem("a", 0, 0, 1, 0).stem("a", 0, 1, 0, 0).read(), "01");
            Edge.due("the least of all", desk.own("a", 0, 0).read(), "00");
        });
        Edge.holds("of these by the second word, and so on", () -> {
            Desk desk = new Desk().stem("a", 0, 0, 0, 0).stem("a", 0, 1, 0, 0).stem("b", 0, 2, 0, 0).stem("b", 0, 3, 0, 0);
            Edge.due("all are free", desk.write("a b a b").read(), "00 20 00 20");
            desk.tell(0, 2, APART);
            Edge.due("the first word first, though the second one is greater", desk.rewrite("a b").read(), "00 30");
            desk.tell(3, 0, APART);
            Edge.due("the third one is greater", desk.rewrite("a b a").read(), "00 30 10");
            desk.tell(3, 1, APART);
            Edge.due("the first one is greater", desk.read(), "10 20 00");
            desk.tell(1, 2, APART);
            Edge.due("one is broken by each: the least ones", desk.read(), "00 20 00");
            Edge.due("broken", desk.mistakes(), "B1");
        });
        Edge.holds("of these by the second word: behind a word that is not right, and at the end", () -> {
            Desk desk = new Desk().stem("a", 0, 0, 1, 0).stem("a", 0, 0, 0, 0).write("h a.a h a");
            Edge.due("read", desk.read(), "- 00 00 - 00");
        });
    }

    private static void longSentences() {
        Edge.holds("A sentence is read: of 50 words, by the last one", () -> {
            Desk desk = new Desk().stem("a", 0, 0, 0, 0).stem("a", 0, 0, 1, 0).own("b", 1, 1).own("c", 1, 0);
            desk.tell(0, 0, AGREE).tell(0, 1, AGREE).write("a ".repeat(49) + "b");
            Edge.due("first and last", desk.x().reading(0) + " " + desk.x().reading(48) + " " + desk.x().reading(49), "1 1 3");
            Edge.due("none is broken", desk.mistakes(), "");
            desk.x().take(98);
            desk.x().put(98, 'c');
            Edge.due("another last one", desk.x().reading(0) + " " + desk.x().reading(48) + " " + desk.x().reading(49), "0 0 2");
            desk.tell(1, 0, AGREE).x().take(0);
            desk.x().put(0, 'b');
            Edge.due("one is broken, the first that can be least", desk.mistakes(), "B1");
            Edge.due("the second one", desk.x().reading(1), 0);
        });
        Edge.holds("A sentence is read: of 50 words, all broken", () -> {
            Desk desk = new Desk().own("a", 0, 0).tell(0, 0, APART).write("a ".repeat(50));
            Edge.due("mistakes", desk.x().mistakes(), 49);
            Edge.due("the first one", desk.x().mistakeKind(0) + " " + desk.x().mistakeAt(0), "1 1");
            Edge.due("the last one", desk.x().mistakeKind(48) + " " + desk.x().mistakeAt(48), "1 49");
        });
    }

    private static void items() {
        Edge.holds("Puts an item behind those of the style that is drafted, which has none at first", () -> {
            Desk desk = new Desk();
            Edge.due("first", desk.x().item(0), 1);
            Edge.due("second", desk.x().item(0), 2);
            Edge.due("third", desk.x().item(0), 3);
            Edge.thrown("fourth", Edge.STATE, desk, x -> x.item(0));
            desk.draft("a").x().style(0);
            Edge.due("first of the next style", desk.x().item(0), 1);
        });
        Edge.holds("kind: 0 to 3; NONE for the drafted word", () -> {
            for (int kind = 0; kind <= 3; kind++) {
                Desk desk = kinds().draft("h");
                Edge.due("item", desk.x().item(kind), 1);
                Edge.due("the draft is not taken", desk.x().letter('h'), 2);
                desk.x().style(0);
                Edge.due("the kind alone", desk.write("a b c d h").mistakes(), ("S" + kind + " ") + "W4");
            }
            Desk word = kinds().draft("h");
            Edge.due("word", word.x().item(NONE), 1);
            Edge.due("the draft is taken", word.scrapped(), 0);
            word.draft("g").x().style(0);
            Edge.due("the word alone", word.write("a b c d h").mistakes(), "W4 S4");
        });
        Edge.holds("a style has 1 to 3 items: one behind the other", () -> {
            Desk desk = kinds();
            desk.style(0, "h", "0", "b", "2").write("a b c a c b c b a");
            Edge.due("three of them", desk.mistakes(), "S0");
            Desk two = kinds().style(0, "h", "1", "0").write("a b a b.a");
            Edge.due("two of them", two.mistakes(), "S1");
        });
    }

    private static void styles() {
        Edge.holds("Styles are numbered from 0, at most 8", () -> {
            Desk desk = new Desk();
            for (int i = 0; i < 8; i++) {
                desk.items("abcdefgh".substring(i, i + 1)).draft("h");
                Edge.due("number", desk.x().style(0), i);
            }
            Edge.thrown("a ninth", Edge.STATE, desk.items("0").draft("h"), x -> x.style(0));
            desk.scrapped();
            Edge.due("items may be drafted", desk.x().item(1), 2);
            Edge.due("all are used", desk.write("a b c d e f g h").x().mistakes(), 16);
        });
        Edge.holds("place: from 0: which item becomes the word", () -> {
            String[] due = {"d b c", "a d c", "a b d"};
            for (int place = 0; place <= 2; place++) {
                Desk desk = kinds().style(place, "d", "0", "1", "2").write("a b c");
                Edge.due("place " + place, desk.x().correct() + " " + desk.text(), "1 " + due[place]);
                Desk words = kinds().style(place, "d", "a", "b", "c").write("a b c");
                Edge.due("of words, place " + place, words.x().correct() + " " + words.text(), "1 " + due[place]);
            }
            Edge.due("one of one", kinds().items("0").draft("d").x().style(0), 0);
            Edge.due("two of two", kinds().items("0", "a").draft("d").x().style(1), 0);
        });
        Edge.holds("if it has items, and there is no such place", () -> {
            for (int count = 1; count <= 3; count++) {
                int items = count;
                Desk desk = new Desk().items("0 1 2".substring(0, 2 * count - 1).split(" ")).draft("a");
                Edge.thrown("behind the last", Edge.INDEX, desk, x -> x.style(items));
                Edge.thrown("below", Edge.INDEX, desk, x -> x.style(-1));
                Edge.due("the last one", desk.x().style(count - 1), 0);
            }
        });
    }

    private static void whereStylesFit() {
        Edge.holds("It fits some words of a sentence one behind the other", () -> {
            Desk desk = kinds().style(0, "h", "0", "1", "2");
            Edge.due("as many as there are", desk.write("a b c").mistakes(), "S0");
            Edge.due("one is missing", desk.rewrite("a b").mistakes(), "");
            Edge.due("two are missing", desk.rewrite("c a").mistakes(), "");
            Edge.due("at the end", desk.rewrite("c b a b c").mistakes(), "S2");
            Edge.due("one is missing at the end", desk.rewrite("c a b").mistakes(), "");
            Edge.due("in two sentences", desk.rewrite("a b.c").mistakes() + desk.rewrite("a.b c").mistakes(), "");
            Edge.due("of other signs between them", desk.rewrite("a<.>b > c").mistakes(), "S0");
            Edge.due("one between them", desk.rewrite("a d b c").mistakes(), "");
            Edge.due("one that is not right between them", desk.rewrite("a h b c").mistakes(), "W1");
        });
        Edge.holds("if each is read by the kind", () -> {
            Desk desk = new Desk().stem("a", 0, 0, 0, 0).stem("a", 0, 1, 0, 0).stem("b", 0, 2, 0, 0).style(0, "h", "1");
            Edge.due("by another kind", desk.write("a").mistakes(), "");
            Edge.due("by the kind, for what is behind it", desk.tell(0, 2, APART).rewrite("a b.a").mistakes(), "S0");
            Desk forms = new Desk().own("a", 1, 0).own("b", 1, 1).style(0, "h", "1").write("a b h");
            Edge.due("of either form", forms.mistakes(), "S0 S1 W2");
        });
        Edge.holds("if each is read by the kind: a word that is not right is of none", () -> {
            Desk desk = new Desk().style(0, "h", "0").style(0, "h", "1").style(0, "h", "2").style(0, "h", "3");
            Edge.due("not right", desk.write("a aaaaaaaaaaa").mistakes(), "W0 W1");
            Edge.due("barred", desk.own("a", 0, 0).bar("a").mistakes(), "W0 W1");
        });
        Edge.holds("or is the word", () -> {
            Desk desk = new Desk().own("ab", 2, 1).bar("bb").style(0, "h", "ab").style(0, "h", "bb").style(0, "h", "abcdefghab");
            desk.write("ab bb ba a abb abcdefghab abcdefghaba");
            Edge.due("right, barred and neither", desk.mistakes(), "S0 W1 S1 W2 W3 W4 W5 S5 W6");
        });
    }

    private static void whichStylesAreTaken() {
        Edge.holds("In a sentence, from the first word on, the lowest style that fits from there, is taken", () -> {
            Desk first = kinds().style(0, "d", "0", "1").style(0, "c", "0").write("a b a");
            Edge.due("the longer one first", first.mistakes(), "S0 S2");
            Edge.due("its change", first.x().correct() + " " + first.text(), "2 d b c");
            Desk then = kinds().style(0, "c", "0").style(0, "d", "0", "1").write("a b a");
            Edge.due("the shorter one first", then.mistakes(), "S0 S2");
            Edge.due("its change", then.x().correct() + " " + then.text(), "2 c b c");
        });
        Edge.holds("and the words behind it come next", () -> {
            Desk desk = kinds().style(0, "h", "0", "0");
            Edge.due("two by two", desk.write("a a a a a").mistakes(), "S0 S2");
            Edge.due("in each sentence anew", desk.rewrite("a a a.a a a").mistakes(), "S0 S3");
            Desk over = kinds().style(0, "h", "0", "1").style(0, "h", "1", "2").style(0, "h", "2").write("a b c");
            Edge.due("one that would overlap is not taken", over.mistakes(), "S0 S2");
            Desk three = kinds().style(0, "h", "0", "0", "0").write("a a a a a a a");
            Edge.due("three by three", three.mistakes(), "S0 S3");
        });
        Edge.holds("if none does, the next word", () -> {
            Desk desk = kinds().style(0, "h", "1", "2").style(0, "h", "0", "1", "1").write("a b c b b c a b b c");
            Edge.due("mistakes", desk.mistakes(), "S1 S4 S6");
        });
        Edge.holds("A style that is taken has a mistake at its first word", () -> {
            Desk desk = kinds().style(2, "h", "0", "1", "2").write("d a b c");
            Edge.due("though the last one changes", desk.mistakes(), "S1");
        });
        Edge.holds("the lowest style: the eighth when no other one fits", () -> {
            Desk desk = kinds();
            for (int i = 0; i < 7; i++) {
                desk.style(0, "g", "1");
            }
            Edge.due("mistakes", desk.style(0, "d", "0").write("a c b").mistakes(), "S0 S2");
            Edge.due("its change", desk.x().correct() >= 1 ? desk.x().signAt(0) : '?', 'd');
        });
    }

    private static void mistakes() {
        Edge.holds("words that are not right or BROKEN, and styles that are taken", () -> {
            Desk desk = kinds();
            Edge.due("none", desk.x().mistakes(), 0);
            Edge.due("a wrong word", desk.write("h").x().mistakes(), 1);
            Edge.due("a broken one", desk.tell(0, 1, APART).rewrite("a b").x().mistakes(), 1);
            Edge.due("a style", desk.style(0, "c", "1").rewrite("a.b").x().mistakes(), 1);
            Edge.due("a broken one and a style", desk.rewrite("a b").x().mistakes(), 2);
            Edge.due("a wrong word and a style", desk.style(0, "c", "h").rewrite("h").x().mistakes(), 2);
        });
        Edge.holds("by rising words, WRONG ahead of BROKEN, that ahead of STYLE", () -> {
            Desk desk = kinds().tell(0, 1, APART).tell(1, 1, APART).style(0, "c", "1").style(0, "c", "h");
            desk.write("h a b.b b h");
            Edge.due("mistakes", desk.mistakes(), "W0 S0 B2 S2 S3 B4 S4 W5 S5");
            int[] kinds = {SpellScribe.WRONG, SpellScribe.STYLE, SpellScribe.BROKEN};
            for (int i = 0; i < kinds.length; i++) {
                Edge.due("kind", desk.x().mistakeKind(i), kinds[i]);
            }
        });
        Edge.holds("mistake: from 0", () -> {
            Desk desk = kinds().write("h a h");
            Edge.due("first", desk.x().mistakeKind(0) + " " + desk.x().mistakeAt(0), "0 0");
            Edge.due("last", desk.x().mistakeKind(1) + " " + desk.x().mistakeAt(1), "0 2");
            Edge.thrown("behind", Edge.INDEX, desk, x -> x.mistakeKind(2));
            Edge.thrown("behind", Edge.INDEX, desk, x -> x.mistakeAt(2));
            Edge.due("asked first of all", kinds().write("a h").x().mistakeKind(0), SpellScribe.WRONG);
            Edge.due("asked first of all", kinds().write("a h").x().mistakeAt(0), 1);
            desk.own("h", 0, 0);
            Edge.thrown("none any more", Edge.INDEX, desk, x -> x.mistakeKind(0));
            Edge.thrown("none any more", Edge.INDEX, desk, x -> x.mistakeAt(0));
        });
    }

    private static void lastWord() {
        Edge.holds("word: its number in the text: the last one of 50", () -> {
            Desk desk = new Desk().own("a", 0, 0).own("b", 3, 1).own("c", 0, 0).own("bd", 2, 1).style(0, "a", "bd");
            desk.write("a ".repeat(49) + "bc");
            Edge.due("readings", desk.x().isRight(49) + " " + desk.x().readings(49) + " " + desk.x().reading(49), "false 0 -1");
            Edge.due("split", desk.x().split(49) + " " + desk.x().wordAt(49), "1 98");
            Edge.due("suggestions", desk.suggestions(49), "bd1 b2 c2 a3");
            Edge.due("mistake", desk.mistakes(), "W49");
            Edge.due("ignored", desk.x().ignore(49), 1);
            Edge.due("corrected, and by a style", desk.x().correct() + " " + desk.x().signAt(98) + desk.x().length(), "2 a99");
        });
    }

    private static void mostMistakes() {
        Edge.holds("Returns how many mistakes there are: as many as there can be", () -> {
            Desk desk = new Desk().style(0, "a", "h").write("h ".repeat(50));
            Edge.due("two for each word", desk.x().mistakes(), 100);
            Edge.due("the last ones", desk.x().mistakeKind(98) + " " + desk.x().mistakeKind(99), "0 2");
            Edge.due("their words", desk.x().mistakeAt(98) + " " + desk.x().mistakeAt(99), "49 49");
            Edge.thrown("behind them", Edge.INDEX, desk, x -> x.mistakeKind(100));
            Edge.thrown("behind them", Edge.INDEX, desk, x -> x.mistakeAt(100));
            desk.own("h", 0, 0).tell(0, 0, APART);
            Edge.due("broken ones, and a style for each", desk.x().mistakes(), 99);
            Edge.due("the last one", desk.x().mistakeKind(98) + " " + desk.x().mistakeAt(98), "2 49");
        });
    }
}
