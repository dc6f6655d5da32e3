import java.util.ArrayList;
import java.util.List;
import java.util.function.Function;
import java.util.function.Supplier;

/** Tests of single sentences of the document, each of them named by its words. */
final class Edge {
    static final String RANGE = "IllegalArgumentException";
    static final String STATE = "IllegalStateException";
    static final String INDEX = "IndexOutOfBoundsException";

    private static final int MOST_SHOWN = 40;

    private static String sentence = "";
    private static int sentences;
    private static int wrong;

    private Edge() {
    }

    interface Call {
        Object on(SpellScribe x);
    }

    /** The sentence of the document, and what has to hold by it. */
    static void holds(String words, Runnable test) {
        sentence = words;
        sentences++;
        try {
            test.run();
        } catch (RuntimeException e) {
            tell("the test itself ended by " + e);
            e.printStackTrace(System.out);
        }
    }

    static void due(String what, Object got, Object want) {
        if (!String.valueOf(got).equals(String.valueOf(want))) {
            tell(what + " answered \"" + got + "\", due is \"" + want + "\"");
        }
    }

    private static void tell(String what) {
        wrong++;
        if (wrong <= MOST_SHOWN) {
            System.out.println("[" + sentence + "] " + what);
        }
    }

    /** What the call answers, or the name of what it throws; a throw of the machine itself is told apart. */
    static String outcome(SpellScribe x, Call call) {
        try {
            return String.valueOf(call.on(x));
        } catch (RuntimeException e) {
            return e.getClass().getSimpleName() + (isThrownByStatement(e) ? "" : " by the machine");
        }
    }

    /** What the machine throws again and again may come without any trace. */
    private static boolean isThrownByStatement(RuntimeException e) {
        StackTraceElement[] trace = e.getStackTrace();
        return trace.length > 0 && trace[0].getClassName().equals("SpellScribe");
    }

    /** The call has to throw this, twice running, and afterwards all has to be as on an object without it. */
    static void refused(String what, String exception, Supplier<Desk> made, Call call) {
        for (Probe probe : probes()) {
            Desk used = made.get();
            due(what, outcome(used.x(), call), exception);
            due(what + " again", outcome(used.x(), call), exception);
            due(probe.name + " behind " + what, probe.asked(used), probe.asked(made.get()));
        }
    }

    /** Only the exception: for rows of many calls of which one of the same kind is compared by refused. */
    static void thrown(String what, String exception, Desk desk, Call call) {
        due(what, outcome(desk.x(), call), exception);
    }

    static void end(String name) {
        System.out.println(name + ": " + sentences + " sentences, " + (wrong == 0 ? "all hold" : wrong + " answers are not as due"));
        if (wrong != 0) {
            System.exit(1);
        }
    }

    /** A way to look at the whole of an object by many calls, some of which change it. */
    private static final class Probe {
        private final String name;
        private final Function<Desk, String> question;

        Probe(String name, Function<Desk, String> question) {
            this.name = name;
            this.question = question;
        }

        String asked(Desk desk) {
            return question.apply(desk);
        }
    }

    private static List<Probe> probes() {
        List<Probe> probes = new ArrayList<>();
        probes.add(new Probe("what is asked of the text", Edge::askText));
        probes.add(new Probe("what is asked of the words", Edge::askWords));
        probes.add(new Probe("what is told of letters and kinds", Edge::askTold));
        probes.add(new Probe("what is told of rules", Edge::askRules));
        probes.add(new Probe("how much there is", Edge::askHowMuch));
        probes.add(new Probe("the draft", Edge::askDraft));
        probes.add(new Probe("the drafted style", Edge::askDraftedStyle));
        probes.add(new Probe("what was ignored", Edge::askIgnored));
        probes.add(new Probe("the correction", Edge::askCorrection));
        probes.add(new Probe("an edit", Edge::askEdit));
        return probes;
    }

    private static String askText(Desk desk) {
        return desk.text() + "|" + desk.starts() + "|" + desk.x().made();
    }

    private static String askWords(Desk desk) {
        StringBuilder told = new StringBuilder(desk.readings() + "|" + desk.read() + "|" + desk.mistakes() + "|" + desk.splits());
        int words = desk.x().words();
        for (int i = 0; i < words && i < 4; i++) {
            told.append('|').append(desk.x().suggestions(i)).append(outcome(desk.x(), x -> x.suggested(0, 0, 0)));
        }
        return told.toString();
    }

    private static String askTold(Desk desk) {
        StringBuilder told = new StringBuilder();
        for (int first = 0; first < 4; first++) {
            for (int second = 0; second < 4; second++) {
                told.append(desk.x().tell(first, second, SpellScribe.FREE));
            }
        }
        for (char one = 'a'; one <= 'h'; one++) {
            for (char other = 'a'; other < one; other++) {
                told.append(desk.x().sound(one, other) ? '+' : '-');
            }
        }
        return told.toString();
    }

    private static String askRules(Desk desk) {
        StringBuilder told = new StringBuilder();
        for (int rule = 0; rule < 8; rule++) {
            int number = rule;
            told.append(outcome(desk.x(), x -> x.more(number, 0))).append(' ').append(desk.x().made()).append(' ');
        }
        return told.toString();
    }

    private static String askHowMuch(Desk desk) {
        desk.x().scrap();
        String rule = outcome(desk.x(), x -> x.rule(0, true, 1, ' ', Desk.NONE, Desk.NONE));
        desk.x().letter('g');
        String stem = outcome(desk.x(), x -> x.stem(0, 0, 0, 0));
        desk.x().scrap();
        desk.x().letter('h');
        String own = outcome(desk.x(), x -> x.own(0, 0));
        desk.x().scrap();
        desk.draft("hg");
        String barred = outcome(desk.x(), x -> x.bar());
        return rule + " " + stem + " " + own + " " + barred;
    }

    private static String askDraft(Desk desk) {
        String item = outcome(desk.x(), x -> x.item(Desk.NONE));
        String draft = "";
        for (int i = 0; i < 12; i++) {
            draft = outcome(desk.x(), x -> x.letter('a'));
        }
        return item + " " + draft + " " + desk.scrapped() + " " + outcome(desk.x(), x -> x.bar());
    }

    private static String askDraftedStyle(Desk desk) {
        StringBuilder told = new StringBuilder(outcome(desk.x(), x -> x.item(0)));
        desk.x().scrap();
        desk.x().letter('h');
        told.append(outcome(desk.x(), x -> x.style(0)));
        return told.append(desk.mistakes()).append(outcome(desk.x(), x -> x.item(0))).toString();
    }

    private static String askIgnored(Desk desk) {
        StringBuilder told = new StringBuilder();
        int words = desk.x().words();
        for (int i = 0; i < words; i++) {
            int word = i;
            told.append(outcome(desk.x(), x -> x.ignore(word))).append(' ');
        }
        return told.append(desk.rights()).toString();
    }

    /** What is drafted becomes an own word, if it can, so that its letters are seen by what is suggested. */
    private static String askCorrection(Desk desk) {
        String own = outcome(desk.x(), x -> x.own(2, 1));
        return own + desk.x().correct() + desk.text() + desk.mistakes();
    }

    private static String askEdit(Desk desk) {
        String own = outcome(desk.x(), x -> x.own(3, 1));
        String taken = outcome(desk.x(), x -> x.take(0));
        String put = outcome(desk.x(), x -> x.put(0, '.'));
        return own + " " + taken + " " + put + " " + desk.x().made() + " " + desk.readings();
    }
}
