import java.util.ArrayList;
import java.util.Arrays;
import java.util.Collections;
import java.util.HashMap;
import java.util.HashSet;
import java.util.List;
import java.util.Map;
import java.util.Set;
import java.util.TreeMap;
import java.util.TreeSet;

/**
 * Runs the same calls on SpellScribe and on a slow model of the document, written with texts and
 * maps and by trying everything, and compares each answer. The runs are always the same ones.
 */
public final class ModelTest {
    private static final int RUNS = 6000;
    private static final int MOST_CALLS = 512;
    private static final int MOST_SHOWN = 20;

    private static long state;
    private static int wrong;
    private static final Map<String, Integer> answers = new TreeMap<>();

    public static void main(String[] args) {
        for (int run = 0; run < RUNS && wrong < MOST_SHOWN; run++) {
            state = run * 7919L + 17;
            new Run(run).go();
        }
        if (args.length > 0) {
            answers.forEach((name, count) -> System.out.println(name + ": " + count));
        }
        System.out.println(wrong == 0 ? "ModelTest: all answers are as due" : "ModelTest: answers are not as due");
        if (wrong != 0) {
            System.exit(1);
        }
    }

    private static int pick(int bound) {
        state = state * 6364136223846793005L + 1442695040888963407L;
        return (int) ((state >>> 33) % bound);
    }

    private static boolean chance(int percent) {
        return pick(100) < percent;
    }

    interface Call {
        long answer();
    }

    /** One run of calls, each on both. */
    private static final class Run {
        private final int number;
        private final SpellScribe x = new SpellScribe();
        private final Model model = new Model();
        private final StringBuilder told = new StringBuilder();
        private final int alphabet = 2 + pick(7);
        private final boolean isBig = chance(3);
        private final boolean isTiny = !isBig && chance(5);
        private int calls;
        private boolean isOver;

        Run(int number) {
            this.number = number;
        }

        private static String outcome(Call call) {
            try {
                return Long.toString(call.answer());
            } catch (IndexOutOfBoundsException | IllegalArgumentException | IllegalStateException e) {
                String thrower = e.getStackTrace()[0].getClassName();
                boolean isByStatement = thrower.equals("SpellScribe") || thrower.startsWith("ModelTest");
                return "throws." + e.getClass().getSimpleName() + (isByStatement ? "" : " by " + thrower);
            }
        }

        /** Answers -99 if it was thrown, or nothing may be called any more. */
        private long both(String name, Call real, Call due) {
            if (isOver || calls >= MOST_CALLS) {
                isOver = true;
                return -99;
            }
            calls++;
            String got = outcome(real);
            String want = outcome(due);
            told.append("  ").append(name).append(" -> ").append(want).append('\n');
            String kind = name.substring(0, name.indexOf('('));
            answers.merge(want.startsWith("t") ? kind + " " + want : kind, 1, Integer::sum);
            if (!got.equals(want)) {
                wrong++;
                isOver = true;
                System.out.println("run " + number + ": " + name + " answered " + got + ", due is " + want);
                if (wrong == 1) {
                    System.out.println(told);
                }
            }
            return want.startsWith("t") ? -99 : Long.parseLong(want);
        }

        void go() {
            int stems = isBig ? 12 : isTiny ? 4 + pick(5) : 1 + pick(5);
            int rules = isBig ? 8 : isTiny ? pick(2) : pick(5);
            for (int i = 0; i < stems; i++) {
                addStem();
            }
            for (int i = 0; i < rules; i++) {
                addRule();
            }
            for (int i = pick(isBig ? 3 : 12); i > 0; i--) {
                both2("tell", pick(4), pick(4), pick(3));
            }
            for (int i = pick(3); i > 0; i--) {
                sound();
            }
            for (int i = pick(4); i > 0; i--) {
                addStyle();
            }
            fillText();
            for (int i = 0; i < 60 && !isOver; i++) {
                askSome();
                if (chance(25)) {
                    changeSomething();
                }
            }
        }

        private void both2(String name, int first, int second, int what) {
            both(name + "(" + first + ", " + second + ", " + what + ")",
                () -> x.tell(first, second, what), () -> model.tell(first, second, what));
        }

        private char randomLetter() {
            return (char) ('a' + pick(alphabet));
        }

        private void draft(String word) {
            for (char c : word.toCharArray()) {
                both("letter(" + c + ")", () -> x.letter(c), () -> model.letter(c));
            }
        }

        private String randomWord(int least, int most) {
            StringBuilder word = new StringBuilder();
            for (int i = least + pick(most - least + 1); i > 0; i--) {
                word.append(randomLetter());
            }
            return word.toString();
        }

        private int badOr(int good, int... bad) {
            if (!chance(2)) {
                return good;
            }
            return chance(20) ? (chance(50) ? Integer.MIN_VALUE : Integer.MAX_VALUE) : bad[pick(bad.length)];
        }

        private void addStem() {
            draft(chance(3) ? "" : chance(10) ? randomWord(6, 10) : randomWord(isBig ? 2 : 1, isTiny ? 1 : 4));
            int flags = badOr(isBig ? 63 : pick(64), -1, 64);
            int kind = badOr(pick(4), -1, 4);
            int form = badOr(pick(2), -1, 2);
            int is = badOr(isBig ? pick(2) : chance(40) ? 0 : pick(8), -1, 8);
            both("stem(" + flags + ", " + kind + ", " + form + ", " + is + ")",
                () -> x.stem(flags, kind, form, is), () -> model.stem(flags, kind, form, is));
        }

        private void addRule() {
            draft(chance(15) ? "" : randomWord(1, chance(5) ? 5 : isBig ? 1 : 3));
            int flag = badOr(pick(6), -1, 6);
            boolean isEnd = chance(isBig ? 75 : 60);
            int strip = badOr(pick(isBig ? 1 : 3), -1, 3);
            char with = (char) badOr(chance(isBig ? 95 : 60) ? ' ' : randomLetter(), 'i', '`', '.', 0);
            int kind = badOr(pick(5) - 1, -2, 4);
            int form = badOr(pick(3) - 1, -2, 2);
            long made = both("rule(" + flag + ", " + isEnd + ", " + strip + ", '" + with + "', " + kind + ", " + form + ")",
                () -> x.rule(flag, isEnd, strip, with, kind, form),
                () -> model.rule(flag, isEnd, strip, with, kind, form));
            if (made >= 0 && chance(50)) {
                more((int) made);
            }
        }

        private void more(int rule) {
            int number = badOr(rule, -1, 8, rule + 1);
            int flags = badOr(isBig ? 63 : pick(64), -1, 64);
            both("more(" + number + ", " + flags + ")", () -> x.more(number, flags), () -> model.more(number, flags));
        }

        private void sound() {
            char one = (char) badOr(randomLetter(), 'i', ' ');
            char other = (char) badOr('a' + pick(8), 'i', '`');
            both("sound(" + one + ", " + other + ")",
                () -> x.sound(one, other) ? 1 : 0, () -> model.sound(one, other));
        }

        private void addStyle() {
            for (int i = 1 + pick(chance(10) ? 4 : 3); i > 0; i--) {
                int kind = badOr(pick(5) - 1, -2, 4);
                if (kind == -1 && !chance(5)) {
                    draft(someWord());
                }
                both("item(" + kind + ")", () -> x.item(kind), () -> model.item(kind));
            }
            if (!chance(3)) {
                draft(someWord());
            }
            int place = chance(70) ? 0 : pick(5) - 1;
            both("style(" + place + ")", () -> x.style(place), () -> model.style(place));
        }

        /** Mostly a word that may be right, sometimes with a change or two. */
        private String someWord() {
            List<String> known = model.someRightWords();
            String word = known.isEmpty() || chance(15) ? randomWord(1, 5) : known.get(pick(known.size()));
            for (int i = chance(55) ? 0 : 1 + pick(2); i > 0; i--) {
                word = changed(word);
            }
            return word.isEmpty() ? "a" : word.length() > 10 ? word.substring(0, 10) : word;
        }

        private String changed(String word) {
            int place = pick(word.length() + 1);
            String ahead = word.substring(0, place);
            String behind = word.substring(place);
            int way = pick(4);
            if (way == 0 || behind.isEmpty()) {
                return ahead + randomLetter() + behind;
            }
            if (way == 1) {
                return ahead + behind.substring(1);
            }
            if (way == 2 && behind.length() > 1) {
                return ahead + behind.charAt(1) + behind.charAt(0) + behind.substring(2);
            }
            return ahead + randomLetter() + behind.substring(1);
        }

        private void fillText() {
            if (isTiny) {
                for (int i = 0; i < 100; i++) {
                    put(i, i % 2 == 0 ? randomLetter() : chance(2) ? '.' : ' ');
                }
                return;
            }
            int most = chance(10) ? 100 : 10 + pick(50);
            StringBuilder wanted = new StringBuilder();
            while (wanted.length() < most) {
                wanted.append(someWord());
                int way = pick(20);
                wanted.append(way < 12 ? " " : way < 15 ? "." : way < 16 ? "<" : way < 18 ? ">" : way < 19 ? "<.>" : "");
            }
            for (int i = 0; i < most; i++) {
                put(i, wanted.charAt(i));
            }
        }

        private void put(int place, char sign) {
            both("put(" + place + ", '" + sign + "')", () -> x.put(place, sign), () -> model.put(place, sign));
        }

        private void take(int place) {
            both("take(" + place + ")", () -> x.take(place), () -> model.take(place));
        }

        private void changeSomething() {
            int way = pick(20);
            int size = model.text.length();
            if (way < 5) {
                put(badOr(pick(size + 1), -1, size + 1), (char) badOr("abcdefgh  .<>".charAt(pick(13)), 'i', '/', ','));
            } else if (way < 8) {
                take(badOr(size == 0 ? 0 : pick(size), -1, size));
            } else if (way < 10) {
                both("correct()", x::correct, model::correct);
            } else if (way < 12) {
                draft(someWord());
                int kind = badOr(pick(4), -1, 4);
                int form = badOr(pick(2), -1, 2);
                both("own(" + kind + ", " + form + ")", () -> x.own(kind, form), () -> model.own(kind, form));
            } else if (way < 14) {
                draft(chance(5) ? "" : someWord());
                both("bar()", x::bar, model::bar);
            } else if (way < 16) {
                more(pick(4));
            } else if (way < 17) {
                addStyle();
            } else if (way < 18) {
                both2("tell", badOr(pick(4), -1, 4), badOr(pick(4), -1, 4), badOr(pick(3), -1, 3));
            } else if (way < 19) {
                sound();
            } else {
                both("scrap()", x::scrap, model::scrap);
                if (chance(50)) {
                    addStem();
                } else {
                    addRule();
                }
            }
        }

        private void askSome() {
            int count = (int) model.words();
            int word = badOr(count == 0 ? 0 : pick(count), -1, count);
            int way = pick(12);
            if (way == 0) {
                both("isRight(" + word + ")", () -> x.isRight(word) ? 1 : 0, () -> model.isRight(word));
                both("wordAt(" + word + ")", () -> x.wordAt(word), () -> model.wordAt(word));
            } else if (way == 1) {
                both("readings(" + word + ")", () -> x.readings(word), () -> model.readings(word));
                both("words()", x::words, model::words);
            } else if (way < 4) {
                both("reading(" + word + ")", () -> x.reading(word), () -> model.reading(word));
            } else if (way == 4) {
                both("split(" + word + ")", () -> x.split(word), () -> model.split(word));
                both("made()", x::made, model::madeCount);
            } else if (way < 7) {
                askMistakes();
            } else if (way < 10) {
                askSuggestions(word);
            } else if (way == 10) {
                for (int i = pick(5); i >= 0; i--) {
                    both("ignore(" + word + ")", () -> x.ignore(word), () -> model.ignore(word));
                }
            } else {
                int size = model.text.length();
                int place = badOr(size == 0 ? 0 : pick(size), -1, size);
                both("signAt(" + place + ")", () -> x.signAt(place), () -> model.signAt(place));
                both("length()", x::length, model::length);
            }
        }

        private void askMistakes() {
            long count = chance(50) ? model.mistakes() : both("mistakes()", x::mistakes, model::mistakes);
            int mistake = badOr(count > 0 ? pick((int) count) : 0, -1, (int) count);
            if (chance(50)) {
                both("mistakeKind(" + mistake + ")", () -> x.mistakeKind(mistake), () -> model.mistakeKind(mistake));
            }
            both("mistakeAt(" + mistake + ")", () -> x.mistakeAt(mistake), () -> model.mistakeAt(mistake));
        }

        private void askSuggestions(int word) {
            if (chance(30)) {
                both("suggestionsByAll(" + word + ")", () -> x.suggestionsByAll(word), () -> model.suggestions(word));
            }
            long count = both("suggestions(" + word + ")", () -> x.suggestions(word), () -> model.suggestions(word));
            int suggestion = badOr(count > 0 ? pick((int) count) : 0, -1, (int) count);
            both("cost(" + word + ", " + suggestion + ")",
                () -> x.cost(word, suggestion), () -> model.cost(word, suggestion));
            int last = 1 + pick(4);
            for (int i = 0; i < last; i++) {
                int place = badOr(i, -1, 10, 1000000);
                both("suggested(" + word + ", " + suggestion + ", " + place + ")",
                    () -> x.suggested(word, suggestion, place), () -> model.suggested(word, suggestion, place));
            }
        }
    }

    private record Stem(String word, int flags, int kind, int form, int is) {
    }

    private record Made(String word, int kind, int form, int is) {
    }

    private record Style(List<String> items, int place, String change) {
    }

    private static final class Rule {
        int flag;
        boolean isEnd;
        int strip;
        char with;
        String added;
        int kind;
        int form;
        int more;

        Made use(Made from) {
            String word = from.word;
            if (word.length() <= strip) {
                return null;
            }
            if (with != ' ' && (isEnd ? word.charAt(word.length() - 1) : word.charAt(0)) != with) {
                return null;
            }
            String comes = isEnd ? word.substring(0, word.length() - strip) + added : added + word.substring(strip);
            if (comes.length() > 10) {
                return null;
            }
            return new Made(comes, kind == -1 ? from.kind : kind, form == -1 ? from.form : form, from.is);
        }
    }

    private record Word(String letters, int start) {
    }

    private static final class Model {
        String draft = "";
        String text = "";
        final List<Stem> stems = new ArrayList<>();
        final List<Rule> rules = new ArrayList<>();
        final Map<String, Integer> own = new HashMap<>();
        final Set<String> barred = new HashSet<>();
        final Map<String, Integer> ignored = new HashMap<>();
        final Set<String> alike = new HashSet<>();
        final int[][] told = new int[4][4];
        final List<Style> styles = new ArrayList<>();
        List<String> items = new ArrayList<>();
        List<Made> made;
        Map<String, Integer> joins;

        static void need(boolean holds, RuntimeException e) {
            if (!holds) {
                throw e;
            }
        }

        static void range(boolean holds) {
            need(holds, new IllegalArgumentException());
        }

        static void fit(boolean holds) {
            need(holds, new IllegalStateException());
        }

        static void there(boolean holds) {
            need(holds, new IndexOutOfBoundsException());
        }

        static boolean in(int number, int least, int most) {
            return least <= number && number <= most;
        }

        static boolean isLetter(char c) {
            return "abcdefgh".indexOf(c) >= 0;
        }

        String taken() {
            String word = draft;
            draft = "";
            return word;
        }

        void forgetWords() {
            made = null;
            joins = null;
        }

        long letter(char c) {
            range(isLetter(c));
            fit(draft.length() < 10);
            draft += c;
            return draft.length();
        }

        long scrap() {
            return taken().length();
        }

        long stem(int flags, int kind, int form, int is) {
            range(in(flags, 0, 63) && in(kind, 0, 3) && in(form, 0, 1) && in(is, 0, 7));
            fit(!draft.isEmpty() && stems.size() < 12);
            stems.add(new Stem(taken(), flags, kind, form, is));
            forgetWords();
            return stems.size() - 1;
        }

        long rule(int flag, boolean isEnd, int strip, char with, int kind, int form) {
            range(in(flag, 0, 5) && in(strip, 0, 2) && (with == ' ' || isLetter(with)));
            range(in(kind, -1, 3) && in(form, -1, 1));
            fit(draft.length() <= 4 && (draft.length() > 0 || strip > 0) && rules.size() < 8);
            Rule rule = new Rule();
            rule.flag = flag;
            rule.isEnd = isEnd;
            rule.strip = strip;
            rule.with = with;
            rule.added = taken();
            rule.kind = kind;
            rule.form = form;
            rules.add(rule);
            forgetWords();
            return rules.size() - 1;
        }

        long more(int rule, int flags) {
            there(in(rule, 0, rules.size() - 1));
            range(in(flags, 0, 63));
            fit(rules.get(rule).isEnd);
            int before = rules.get(rule).more;
            rules.get(rule).more = flags;
            forgetWords();
            return before;
        }

        long sound(char one, char other) {
            range(isLetter(one) && isLetter(other) && one != other);
            boolean isNew = alike.add("" + one + other);
            alike.add("" + other + one);
            return isNew ? 1 : 0;
        }

        long own(int kind, int form) {
            range(in(kind, 0, 3) && in(form, 0, 1));
            fit(!draft.isEmpty() && (own.containsKey(draft) || own.size() < 10));
            String word = taken();
            own.put(word, 2 * kind + form);
            barred.remove(word);
            return own.size();
        }

        long bar() {
            fit(!draft.isEmpty() && (barred.contains(draft) || barred.size() < 10));
            String word = taken();
            barred.add(word);
            own.remove(word);
            return barred.size();
        }

        long ignore(int number) {
            String word = word(number).letters;
            fit(!isRightWord(word) && word.length() <= 10 && !barred.contains(word));
            int times = ignored.merge(word, 1, Integer::sum);
            if (times >= 3 && own.size() < 10) {
                own.put(word, 0);
                ignored.remove(word);
                return 0;
            }
            return times;
        }

        long tell(int first, int second, int what) {
            range(in(first, 0, 3) && in(second, 0, 3) && in(what, 0, 2));
            int before = told[first][second];
            told[first][second] = what;
            return before;
        }

        long item(int kind) {
            range(in(kind, -1, 3));
            fit(items.size() < 3 && (kind != -1 || !draft.isEmpty()));
            items.add(kind == -1 ? taken() : "" + kind);
            return items.size();
        }

        long style(int place) {
            fit(!items.isEmpty() && !draft.isEmpty() && styles.size() < 8);
            there(in(place, 0, items.size() - 1));
            styles.add(new Style(items, place, taken()));
            items = new ArrayList<>();
            return styles.size() - 1;
        }

        long put(int place, char sign) {
            there(in(place, 0, text.length()));
            range(isLetter(sign) || " .<>".indexOf(sign) >= 0);
            fit(text.length() < 100);
            return edit(text.substring(0, place) + sign + text.substring(place));
        }

        long take(int place) {
            there(in(place, 0, text.length() - 1));
            return edit(text.substring(0, place) + text.substring(place + 1));
        }

        long edit(String then) {
            List<String> before = sentences(text);
            text = then;
            List<String> fresh = sentences(text);
            for (String sentence : before) {
                fresh.remove(sentence);
            }
            int checked = 0;
            for (String sentence : fresh) {
                checked += wordsIn(sentence).size();
            }
            return checked;
        }

        /** Every sign in markup becomes a '#'. */
        static String plain(String text) {
            StringBuilder plain = new StringBuilder(text);
            for (int from = text.indexOf('<'); from >= 0;) {
                int end = text.indexOf('>', from);
                end = end < 0 ? text.length() - 1 : end;
                for (int i = from; i <= end; i++) {
                    plain.setCharAt(i, '#');
                }
                from = text.indexOf('<', end + 1);
            }
            return plain.toString();
        }

        static List<String> sentences(String text) {
            String plain = plain(text);
            List<String> sentences = new ArrayList<>();
            int start = 0;
            for (int i = 0; i < text.length(); i++) {
                if (plain.charAt(i) == '.') {
                    sentences.add(text.substring(start, i + 1));
                    start = i + 1;
                }
            }
            sentences.add(text.substring(start));
            return sentences;
        }

        static List<Word> wordsIn(String text) {
            String plain = plain(text) + "#";
            List<Word> words = new ArrayList<>();
            int start = 0;
            for (int i = 0; i < plain.length(); i++) {
                if (!isLetter(plain.charAt(i))) {
                    if (i > start) {
                        words.add(new Word(plain.substring(start, i), start));
                    }
                    start = i + 1;
                }
            }
            return words;
        }

        Word word(int number) {
            List<Word> words = wordsIn(text);
            there(in(number, 0, words.size() - 1));
            return words.get(number);
        }

        List<Made> allMade() {
            if (made == null) {
                made = new ArrayList<>();
                stems.forEach(this::makeOf);
            }
            return made;
        }

        void makeOf(Stem stem) {
            List<Made> withEndings = new ArrayList<>();
            Made itself = new Made(stem.word, stem.kind, stem.form, stem.is);
            withEndings.add(itself);
            for (Rule first : rules) {
                Made one = first.isEnd && (stem.flags & 1 << first.flag) != 0 ? first.use(itself) : null;
                if (one == null) {
                    continue;
                }
                withEndings.add(one);
                for (Rule second : rules) {
                    Made two = second.isEnd && (first.more & 1 << second.flag) != 0 ? second.use(one) : null;
                    if (two != null) {
                        withEndings.add(two);
                    }
                }
            }
            made.addAll(withEndings);
            for (Made ended : withEndings) {
                for (Rule rule : rules) {
                    Made begun = !rule.isEnd && (stem.flags & 1 << rule.flag) != 0 ? rule.use(ended) : null;
                    if (begun != null) {
                        made.add(begun);
                    }
                }
            }
        }

        /** All joins, each with the set of its readings. */
        Map<String, Integer> joins() {
            if (joins == null) {
                Map<String, Integer> parts = new HashMap<>();
                for (Made one : allMade()) {
                    if ((one.is & 6) != 0 && one.word.length() >= 2) {
                        parts.merge(one.word, bit(2 * one.kind + one.form), (a, b) -> a | b);
                    }
                }
                joins = new HashMap<>();
                for (String first : parts.keySet()) {
                    addJoins(first, parts, 2);
                }
            }
            return joins;
        }

        void addJoins(String begun, Map<String, Integer> parts, int left) {
            for (Map.Entry<String, Integer> part : parts.entrySet()) {
                String next = part.getKey();
                if (begun.length() + next.length() <= 10 && begun.charAt(begun.length() - 1) != next.charAt(0)) {
                    joins.merge(begun + next, part.getValue(), (a, b) -> a | b);
                    if (left > 1) {
                        addJoins(begun + next, parts, left - 1);
                    }
                }
            }
        }

        static int bit(int number) {
            return 1 << number;
        }

        int readingSet(String word) {
            if (barred.contains(word)) {
                return 0;
            }
            int set = own.containsKey(word) ? bit(own.get(word)) : 0;
            for (Made one : allMade()) {
                if (one.word.equals(word) && (one.is & 2) == 0) {
                    set |= bit(2 * one.kind + one.form);
                }
            }
            return set | joins().getOrDefault(word, 0);
        }

        boolean isRightWord(String word) {
            return readingSet(word) != 0;
        }

        List<String> someRightWords() {
            List<String> words = new ArrayList<>(own.keySet());
            List<Made> all = allMade();
            for (int i = 0; i < Math.min(all.size(), 8); i++) {
                words.add(all.get(pick(all.size())).word);
            }
            int left = 3;
            for (String join : new TreeSet<>(joins().keySet())) {
                if (left-- > 0) {
                    words.add(join);
                }
            }
            Collections.sort(words);
            return words;
        }

        long words() {
            return wordsIn(text).size();
        }

        long wordAt(int number) {
            return word(number).start;
        }

        long isRight(int number) {
            return isRightWord(word(number).letters) ? 1 : 0;
        }

        long readings(int number) {
            return readingSet(word(number).letters);
        }

        long split(int number) {
            String word = word(number).letters;
            for (int i = 1; i < word.length(); i++) {
                if (isRightWord(word.substring(0, i)) && isRightWord(word.substring(i))) {
                    return i;
                }
            }
            return -1;
        }

        /** The readings by which the text is read, -1 for a word that is not right. */
        List<Integer> chosen() {
            List<Integer> all = new ArrayList<>();
            for (String sentence : sentences(text)) {
                List<Word> words = wordsIn(sentence);
                all.addAll(words.size() <= 5 ? byAllChoices(words) : byBestBeginnings(words));
            }
            return all;
        }

        List<Integer> choicesFor(Word word) {
            List<Integer> choices = new ArrayList<>();
            int set = readingSet(word.letters);
            for (int i = 0; i < 8; i++) {
                if ((set & bit(i)) != 0) {
                    choices.add(i);
                }
            }
            return choices.isEmpty() ? List.of(-1) : choices;
        }

        boolean isBroken(int first, int second) {
            if (first < 0 || second < 0) {
                return false;
            }
            int what = told[first / 2][second / 2];
            return what == 2 || what == 1 && first % 2 != second % 2;
        }

        int brokenIn(List<Integer> readings) {
            int broken = 0;
            for (int i = 1; i < readings.size(); i++) {
                broken += isBroken(readings.get(i - 1), readings.get(i)) ? 1 : 0;
            }
            return broken;
        }

        List<Integer> byAllChoices(List<Word> words) {
            List<List<Integer>> choices = new ArrayList<>();
            choices.add(new ArrayList<>());
            for (Word word : words) {
                List<List<Integer>> longer = new ArrayList<>();
                List<Integer> readings = choicesFor(word);
                for (List<Integer> choice : choices) {
                    for (int reading : readings) {
                        List<Integer> next = new ArrayList<>(choice);
                        next.add(reading);
                        longer.add(next);
                    }
                }
                choices = longer;
            }
            List<Integer> best = choices.get(0);
            for (List<Integer> choice : choices) {
                if (brokenIn(choice) < brokenIn(best)) {
                    best = choice;
                }
            }
            return best;
        }

        /** For each last reading only the best choice ahead of it is kept, the first one of several. */
        List<Integer> byBestBeginnings(List<Word> words) {
            List<List<Integer>> best = List.of(new ArrayList<>());
            for (Word word : words) {
                List<List<Integer>> longer = new ArrayList<>();
                for (int reading : choicesFor(word)) {
                    List<Integer> least = null;
                    for (List<Integer> choice : best) {
                        List<Integer> next = new ArrayList<>(choice);
                        next.add(reading);
                        least = least == null || isBetter(next, least) ? next : least;
                    }
                    longer.add(least);
                }
                best = longer;
            }
            List<Integer> least = best.get(0);
            for (List<Integer> choice : best) {
                least = isBetter(choice, least) ? choice : least;
            }
            return least;
        }

        boolean isBetter(List<Integer> one, List<Integer> other) {
            int difference = brokenIn(one) - brokenIn(other);
            for (int i = 0; i < one.size() && difference == 0; i++) {
                difference = one.get(i) - other.get(i);
            }
            return difference < 0;
        }

        long reading(int number) {
            word(number);
            return chosen().get(number);
        }

        /** For each word the number of the style that is taken from it on, or -1. */
        List<Integer> stylesTaken() {
            List<Integer> taken = new ArrayList<>();
            List<Integer> chosen = chosen();
            for (String sentence : sentences(text)) {
                List<Word> words = wordsIn(sentence);
                int from = taken.size();
                for (int i = 0; i < words.size();) {
                    int style = lowestFit(words, chosen.subList(from, from + words.size()), i);
                    taken.add(style);
                    i++;
                    for (int k = style < 0 ? 1 : styles.get(style).items.size(); k > 1; k--) {
                        taken.add(-1);
                        i++;
                    }
                }
            }
            return taken;
        }

        int lowestFit(List<Word> words, List<Integer> chosen, int from) {
            for (int s = 0; s < styles.size(); s++) {
                List<String> wanted = styles.get(s).items;
                boolean fits = from + wanted.size() <= words.size();
                for (int i = 0; fits && i < wanted.size(); i++) {
                    String item = wanted.get(i);
                    boolean isKind = Character.isDigit(item.charAt(0));
                    int reading = chosen.get(from + i);
                    fits = isKind ? reading >= 0 && ("" + reading / 2).equals(item)
                        : item.equals(words.get(from + i).letters);
                }
                if (fits) {
                    return s;
                }
            }
            return -1;
        }

        List<int[]> allMistakes() {
            List<int[]> found = new ArrayList<>();
            List<Integer> chosen = chosen();
            List<Integer> taken = stylesTaken();
            int number = 0;
            for (String sentence : sentences(text)) {
                int count = wordsIn(sentence).size();
                for (int i = 0; i < count; i++, number++) {
                    if (chosen.get(number) < 0) {
                        found.add(new int[] {0, number});
                    }
                    if (i > 0 && isBroken(chosen.get(number - 1), chosen.get(number))) {
                        found.add(new int[] {1, number});
                    }
                    if (taken.get(number) >= 0) {
                        found.add(new int[] {2, number});
                    }
                }
            }
            return found;
        }

        long mistakes() {
            return allMistakes().size();
        }

        int[] mistake(int number) {
            List<int[]> all = allMistakes();
            there(in(number, 0, all.size() - 1));
            return all.get(number);
        }

        long mistakeKind(int number) {
            return mistake(number)[0];
        }

        long mistakeAt(int number) {
            return mistake(number)[1];
        }

        int costOf(String from, String to) {
            int[][] table = new int[from.length() + 1][to.length() + 1];
            for (int i = from.length(); i >= 0; i--) {
                for (int j = to.length(); j >= 0; j--) {
                    int least = i == from.length() && j == to.length() ? 0 : 1000;
                    if (i < from.length()) {
                        least = Math.min(least, 2 + table[i + 1][j]);
                    }
                    if (j < to.length()) {
                        least = Math.min(least, 2 + table[i][j + 1]);
                    }
                    if (i < from.length() && j < to.length()) {
                        least = Math.min(least, becomes(from.charAt(i), to.charAt(j)) + table[i + 1][j + 1]);
                    }
                    if (i + 2 <= from.length() && j + 2 <= to.length()
                            && from.charAt(i) == to.charAt(j + 1) && from.charAt(i + 1) == to.charAt(j)) {
                        least = Math.min(least, 1 + table[i + 2][j + 2]);
                    }
                    table[i][j] = least;
                }
            }
            return table[0][0];
        }

        int becomes(char one, char other) {
            if (one == other) {
                return 0;
            }
            return Math.abs(one - other) == 1 || alike.contains("" + one + other) ? 1 : 2;
        }

        List<String> suggestionsFor(String word) {
            Set<String> all = new HashSet<>(own.keySet());
            for (Made one : allMade()) {
                if ((one.is & 3) == 0 && !barred.contains(one.word)) {
                    all.add(one.word);
                }
            }
            List<String> fit = new ArrayList<>();
            for (String other : all) {
                if (!other.equals(word) && costOf(word, other) <= 4) {
                    fit.add(other);
                }
            }
            fit.sort((a, b) -> {
                int difference = costOf(word, a) - costOf(word, b);
                difference = difference != 0 ? difference : a.length() - b.length();
                return difference != 0 ? difference : a.compareTo(b);
            });
            return fit;
        }

        long suggestions(int number) {
            return suggestionsFor(word(number).letters).size();
        }

        String suggestion(int number, int suggestion) {
            List<String> all = suggestionsFor(word(number).letters);
            there(in(suggestion, 0, all.size() - 1));
            return all.get(suggestion);
        }

        long cost(int number, int suggestion) {
            return costOf(word(number).letters, suggestion(number, suggestion));
        }

        long suggested(int number, int suggestion, int place) {
            String word = suggestion(number, suggestion);
            there(place >= 0);
            return place < word.length() ? word.charAt(place) : ' ';
        }

        long madeCount() {
            Set<String> unlike = new HashSet<>();
            for (Made one : allMade()) {
                unlike.add(one.word);
            }
            return unlike.size();
        }

        long length() {
            return text.length();
        }

        long signAt(int place) {
            there(in(place, 0, text.length() - 1));
            return text.charAt(place);
        }

        String afterOneChange() {
            List<Word> words = wordsIn(text);
            for (Word word : words) {
                if (!isRightWord(word.letters)) {
                    List<String> all = suggestionsFor(word.letters);
                    if (!all.isEmpty()) {
                        return replaced(word, all.get(0));
                    }
                }
            }
            List<Integer> taken = stylesTaken();
            for (int i = 0; i < words.size(); i++) {
                if (taken.get(i) >= 0) {
                    Style style = styles.get(taken.get(i));
                    return replaced(words.get(i + style.place), style.change);
                }
            }
            return null;
        }

        String replaced(Word word, String other) {
            return text.substring(0, word.start) + other + text.substring(word.start + word.letters.length());
        }

        long correct() {
            List<String> before = new ArrayList<>(Arrays.asList(text));
            for (int changes = 0; changes < 20; changes++) {
                String then = afterOneChange();
                if (then == null || then.length() > 100) {
                    return changes;
                }
                text = then;
                if (before.contains(then)) {
                    return -1;
                }
                before.add(then);
            }
            return 20;
        }
    }
}
