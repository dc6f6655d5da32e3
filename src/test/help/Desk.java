/** A SpellScribe whose calls are counted, with short ways to fill it and to ask it. */
final class Desk {
    static final int NONE = SpellScribe.NONE;
    static final char ANY = ' ';
    private static final int MOST_CALLS = 512;

    private final SpellScribe scribe = new SpellScribe();
    private int calls;

    /** For one call: what an object answers behind its 512th call is free, so no test may ask for it. */
    SpellScribe x() {
        calls++;
        if (calls > MOST_CALLS) {
            throw new AssertionError("this test makes more than 512 calls on an object");
        }
        return scribe;
    }

    int callsLeft() {
        return MOST_CALLS - calls;
    }

    Desk draft(String word) {
        for (int i = 0; i < word.length(); i++) {
            x().letter(word.charAt(i));
        }
        return this;
    }

    Desk stem(String word, int flags, int kind, int form, int is) {
        draft(word).x().stem(flags, kind, form, is);
        return this;
    }

    /** Stems of the kind 0 and the form 0, without flags. */
    Desk stems(int is, String... words) {
        for (String word : words) {
            stem(word, 0, 0, 0, is);
        }
        return this;
    }

    Desk rule(int flag, boolean isEnd, int strip, char with, String added, int kind, int form) {
        draft(added).x().rule(flag, isEnd, strip, with, kind, form);
        return this;
    }

    Desk ending(int flag, int strip, String added) {
        return rule(flag, true, strip, ANY, added, NONE, NONE);
    }

    Desk beginning(int flag, int strip, String added) {
        return rule(flag, false, strip, ANY, added, NONE, NONE);
    }

    Desk more(int rule, int flags) {
        x().more(rule, flags);
        return this;
    }

    Desk own(String word, int kind, int form) {
        draft(word).x().own(kind, form);
        return this;
    }

    Desk bar(String... words) {
        for (String word : words) {
            draft(word).x().bar();
        }
        return this;
    }

    Desk sound(char one, char other) {
        x().sound(one, other);
        return this;
    }

    Desk tell(int first, int second, int what) {
        x().tell(first, second, what);
        return this;
    }

    /** Items of a style: a digit is a kind, all else a word. */
    Desk items(String... items) {
        for (String item : items) {
            boolean isKind = Character.isDigit(item.charAt(0));
            if (!isKind) {
                draft(item);
            }
            x().item(isKind ? item.charAt(0) - '0' : NONE);
        }
        return this;
    }

    Desk style(int place, String change, String... items) {
        items(items).draft(change).x().style(place);
        return this;
    }

    /** Puts the signs behind those that are there. */
    Desk write(String signs) {
        int end = x().length();
        for (int i = 0; i < signs.length(); i++) {
            x().put(end + i, signs.charAt(i));
        }
        return this;
    }

    Desk rewrite(String signs) {
        for (int left = x().length(); left > 0; left--) {
            x().take(left - 1);
        }
        return write(signs);
    }

    Desk ignore(int word, int times) {
        for (int i = 0; i < times; i++) {
            x().ignore(word);
        }
        return this;
    }

    int scrapped() {
        return x().scrap();
    }

    String text() {
        StringBuilder text = new StringBuilder();
        int size = x().length();
        for (int i = 0; i < size; i++) {
            text.append(x().signAt(i));
        }
        return text.toString();
    }

    /** For each word + or -. */
    String rights() {
        StringBuilder rights = new StringBuilder();
        int words = x().words();
        for (int i = 0; i < words; i++) {
            rights.append(x().isRight(i) ? '+' : '-');
        }
        return rights.toString();
    }

    /** For each word where it begins. */
    String starts() {
        StringBuilder starts = new StringBuilder();
        int words = x().words();
        for (int i = 0; i < words; i++) {
            starts.append(i == 0 ? "" : " ").append(x().wordAt(i));
        }
        return starts.toString();
    }

    /** For each word its readings: "00 31" is the kind 0 with the form 0, and the kind 3 with the form 1. */
    String readings() {
        StringBuilder readings = new StringBuilder();
        int words = x().words();
        for (int i = 0; i < words; i++) {
            readings.append(i == 0 ? "" : ", ").append(named(x().readings(i)));
        }
        return readings.toString();
    }

    private static String named(int set) {
        StringBuilder names = new StringBuilder();
        for (int reading = 0; reading < Integer.SIZE; reading++) {
            if ((set >> reading & 1) != 0) {
                names.append(names.length() == 0 ? "" : " ").append(reading / 2).append(reading % 2);
            }
        }
        return names.length() == 0 ? "-" : names.toString();
    }

    /** For each word the reading by which its sentence is read. */
    String read() {
        StringBuilder read = new StringBuilder();
        int words = x().words();
        for (int i = 0; i < words; i++) {
            int reading = x().reading(i);
            read.append(i == 0 ? "" : " ").append(reading == NONE ? "-" : reading / 2 + "" + reading % 2);
        }
        return read.toString();
    }

    /** For each word where it can be split. */
    String splits() {
        StringBuilder splits = new StringBuilder();
        int words = x().words();
        for (int i = 0; i < words; i++) {
            int split = x().split(i);
            splits.append(i == 0 ? "" : " ").append(split == NONE ? "-" : "" + split);
        }
        return splits.toString();
    }

    /** Each mistake: "W0 B1 S1". */
    String mistakes() {
        StringBuilder mistakes = new StringBuilder();
        int count = x().mistakes();
        for (int i = 0; i < count; i++) {
            mistakes.append(i == 0 ? "" : " ").append("WBS".charAt(x().mistakeKind(i))).append(x().mistakeAt(i));
        }
        return mistakes.toString();
    }

    /** Each suggestion with its cost: "bad1 bed2"; "?" if there are not so many by all. */
    String suggestions(int word) {
        StringBuilder suggestions = new StringBuilder();
        int count = x().suggestions(word);
        for (int s = 0; s < count; s++) {
            suggestions.append(s == 0 ? "" : " ");
            for (int place = 0; x().suggested(word, s, place) != ' '; place++) {
                suggestions.append(x().suggested(word, s, place));
            }
            suggestions.append(x().cost(word, s));
        }
        return x().suggestionsByAll(word) == count ? suggestions.toString() : suggestions.append('?').toString();
    }
}
