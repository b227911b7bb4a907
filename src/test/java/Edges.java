import java.io.IOException;
import java.lang.reflect.InvocationTargetException;
import java.lang.reflect.Method;
import java.lang.reflect.Modifier;
import java.math.BigInteger;
import java.nio.file.Files;
import java.nio.file.Path;
import java.util.ArrayList;
import java.util.Arrays;
import java.util.HashMap;
import java.util.List;
import java.util.Map;
import java.util.TreeSet;
import java.util.function.IntFunction;

/**
 * Edges of the document. Each is a sentence of it and a run of calls on a new object, told as text:
 * "barrel(1, 9, 0); fill(0, 5, 9)=9; fill(0, 5, 1)=-11; traced(1)". An act without an answer has to
 * be done; traced(..) is the whole trace of the latest act.
 *
 * Behind each act that has to be refused, all that it may not change is held against a twin that
 * was not asked for it; behind each undo, against a twin that never did what is taken back. No
 * object is asked more than 512 times, but in a run that is told to be longer.
 */
final class Edges {
    /** One barrel of each kind, sizes 10000: 0 OAK, 1 NEW, 2 STEEL, 3 GLASS, 4 CASK. */
    static final String FIVE = "barrel(1, 10000, 100); barrel(2, 10000, 200); barrel(3, 10000, 300);"
        + "barrel(4, 10000, 400); barrel(5, 0, 500);";
    private static final int MOST_CALLS = 512;
    private static final int MOST_TOLD = 40;
    private static final List<String> ACTS = List.of(
        "row", "barrel", "join", "leave", "lay", "lift", "worth", "fill", "rack", "topUp", "pick", "forget", "blend",
        "breathe", "bottle", "drain", "wash", "partAt", "amountAt", "room", "label", "rule", "judge", "plan", "undo");
    private static final List<String> UNDONE = List.of(
        "row", "barrel", "join", "leave", "lay", "lift", "fill", "rack", "topUp", "blend", "breathe", "bottle",
        "drain", "wash", "worth");
    /** What an act may leave changed and no question tells: undo, the picks' amounts, labels, numbers given. */
    private static final String[] PROBES = {
        "undo()", "barrel(3, 1000000000, 0); blend(@)", "barrel(3, 1000, 0); fill(@, 7, 500); bottle(@, 1, 10)",
        "label()"};
    private static final Map<String, Method> METHODS = methods();
    private static final String DOCUMENT = document();
    private static final TreeSet<Integer> TOLD = new TreeSet<>();
    /** How often an object may be asked in the run that is under way. */
    private static int mostCalls = MOST_CALLS;
    private static int wrong = 0;
    private static int edges = 0;
    private static int asked = 0;

    /** One call of a run, with the answer that is due, if one is told. */
    private static final class Call {
        final String text;
        final String name;
        final long[] numbers;
        final boolean told;
        final long want;
        long got = 0;

        Call(String text) {
            this.text = text;
            int open = text.indexOf('(');
            int close = text.indexOf(')');
            name = text.substring(0, open);
            String[] words = text.substring(open + 1, close).split(",");
            boolean none = words.length == 1 && words[0].isBlank();
            numbers = new long[none ? 0 : words.length];
            for (int i = 0; i < numbers.length; i++) {
                numbers[i] = Long.parseLong(words[i].trim());
            }
            int sign = text.indexOf('=');
            told = sign >= 0;
            want = told ? Long.parseLong(text.substring(sign + 1).trim()) : 0;
        }

        boolean isAct() {
            return ACTS.contains(name);
        }
    }

    /** An object with the calls that it was asked. */
    private static final class Cellar {
        final BlendCellar x = new BlendCellar();
        final List<Call> asked = new ArrayList<>();
        int calls = 0;

        long ask(String name, long... numbers) {
            Method m = METHODS.get(name);
            Object[] values = new Object[numbers.length];
            for (int i = 0; i < values.length; i++) {
                values[i] = m.getParameterTypes()[i] == int.class ? (Object) (int) numbers[i] : (Object) numbers[i];
            }
            calls++;
            if (calls > mostCalls) {
                throw new IllegalStateException("an object is asked more than " + mostCalls + " times");
            }
            try {
                return ((Number) m.invoke(x, values)).longValue();
            } catch (InvocationTargetException | IllegalAccessException e) {
                throw new IllegalStateException(name + Arrays.toString(numbers) + " threw " + e.getCause());
            }
        }

        void run(Call call) {
            call.got = ask(call.name, call.numbers);
            asked.add(call);
        }

        static Cellar of(List<Call> calls) {
            Cellar c = new Cellar();
            for (Call call : calls) {
                c.ask(call.name, call.numbers);
            }
            return c;
        }
    }

    private Edges() {
    }

    private static Map<String, Method> methods() {
        Map<String, Method> all = new HashMap<>();
        for (Method m : BlendCellar.class.getDeclaredMethods()) {
            if (Modifier.isPublic(m.getModifiers())) {
                all.put(m.getName(), m);
            }
        }
        return all;
    }

    private static String document() {
        try {
            return plain(Files.readString(Path.of("../shared/DOC.md")));
        } catch (IOException e) {
            return "";
        }
    }

    private static String plain(String text) {
        return text.replaceAll("\\s+", " ");
    }

    /** The document may be told anew, so words that are no more in it are told of, and fail nothing. */
    private static void lookUpWords(int promise, String words) {
        int start = DOCUMENT.indexOf(promise == 0 ? "## Terms" : "## Promise " + promise + ":");
        int end = DOCUMENT.indexOf(" ## ", Math.max(start, 0));
        String section = start < 0 || end < 0 ? "" : DOCUMENT.substring(start, end);
        if (!DOCUMENT.isEmpty() && !section.contains(plain(words))) {
            System.out.println("note: promise " + promise + " does not say: " + words);
        }
    }

    static String times(int from, int to, IntFunction<String> calls) {
        StringBuilder all = new StringBuilder();
        for (int i = from; i <= to; i++) {
            all.append(calls.apply(i)).append(';');
        }
        return all.toString();
    }

    /** d, of 7, over these numbers, reckoned without wrapping, and cut to a long at the end. */
    static long digestOf(long... numbers) {
        BigInteger d = BigInteger.valueOf(7);
        for (long number : numbers) {
            d = d.multiply(BigInteger.valueOf(31)).add(BigInteger.valueOf(number));
        }
        return d.longValue();
    }

    /** Promise 0 stands for the Terms. */
    static void edge(int promise, String words, String... runs) {
        mostCalls = MOST_CALLS;
        tell(promise, words, runs);
    }

    static void longEdge(int promise, String words, String... runs) {
        mostCalls = Integer.MAX_VALUE;
        tell(promise, words, runs);
    }

    private static void tell(int promise, String words, String... runs) {
        TOLD.add(promise);
        lookUpWords(promise, words);
        tell((promise == 0 ? "Terms" : "promise " + promise) + ", \"" + words + "\"", runs);
    }

    /** A run that is told elsewhere than in the document. */
    static void tell(String where, String... runs) {
        edges++;
        try {
            run(where, parse(String.join(";", runs)));
        } catch (IllegalStateException e) {
            due(where + ": " + e.getMessage(), 1, 0);
        }
    }

    private static List<Call> parse(String run) {
        List<Call> calls = new ArrayList<>();
        for (String text : run.split(";")) {
            if (!text.isBlank()) {
                calls.add(new Call(text.trim()));
            }
        }
        return calls;
    }

    private static void due(String what, long got, long want) {
        asked++;
        if (got != want) {
            wrong++;
            if (wrong <= MOST_TOLD) {
                System.out.println(what + ": answered " + got + ", due is " + want);
            }
        }
    }

    private static void run(String where, List<Call> calls) {
        Cellar c = new Cellar();
        int acts = 0;
        for (Call call : calls) {
            String what = where + ", " + call.text;
            if (call.name.equals("traced")) {
                checkTrace(what, c, call.numbers);
                continue;
            }
            List<Call> before = new ArrayList<>(c.asked);
            c.run(call);
            acts += call.isAct() ? 1 : 0;
            if (call.told) {
                due(what, call.got, call.want);
            } else if (call.isAct()) {
                due(what + ", done", call.got < 0 ? call.got : 0, 0);
            }
            // A wrong answer is told once, and not again by all that follows from it.
            if (call.told && call.got != call.want) {
                continue;
            }
            if (call.told && call.isAct()) {
                due(what + ", then why()", c.ask("why"), Math.max(0, -call.want));
                due(what + ", then tries()", c.ask("tries"), acts);
                due(what + ", then closed()", c.ask("closed"), 1);
                checkChanges(what, before, call);
            } else if (call.told) {
                checkQuestion(what, before, call);
            }
        }
    }

    private static void checkTrace(String what, Cellar c, long[] bodies) {
        for (int i = 0; i < bodies.length; i++) {
            due(what + ": trace(" + i + ")", c.ask("trace", i), bodies[i]);
        }
        due(what + ": its end", c.ask("trace", bodies.length), 0);
    }

    private static List<Call> with(List<Call> calls, List<Call> more) {
        List<Call> all = new ArrayList<>(calls);
        all.addAll(more);
        return all;
    }

    private static void checkChanges(String what, List<Call> before, Call call) {
        List<Call> behind = with(before, List.of(call));
        if (call.want < 0) {
            same(what + " changed", behind, before, true);
            checkWhich(what, before, behind, call);
            for (String probe : PROBES) {
                String calls = probe.replace("@", Long.toString(barrels(before)));
                checkProbe(what + " changed what " + calls + " does", before, behind, parse(calls));
            }
            checkProbe(what + " changed a label", before, behind, ruleProbe(before));
            checkRows(what + " changed a row", before, behind);
        } else if (call.name.equals("undo")) {
            List<Call> ahead = before.subList(0, latestDone(before));
            same(what + " left", behind, ahead, false);
            checkRows(what + " left a row", ahead, behind);
            due(what + ", then picked()", Cellar.of(behind).ask("picked"), 0);
            checkWhich(what, before, behind, call);
        }
    }

    private static void checkWhich(String what, List<Call> before, List<Call> behind, Call call) {
        long which = Cellar.of(behind).ask("which");
        if (!call.name.equals("judge")) {
            due(what + ", then which()", which, Cellar.of(before).ask("which"));
        } else if (call.want != -5) {
            due(what + ", then which()", which, -1);
        }
    }

    private static void checkProbe(String what, List<Call> before, List<Call> behind, List<Call> probe) {
        Cellar plain = Cellar.of(before);
        Cellar asked = Cellar.of(behind);
        for (Call call : probe) {
            due(what, asked.ask(call.name, call.numbers), plain.ask(call.name, call.numbers));
        }
        same(what, with(behind, probe), with(before, probe), true);
    }

    /** How many rules each label has, and how many may be made for it yet. */
    private static List<Call> ruleProbe(List<Call> before) {
        List<Call> probe = new ArrayList<>();
        int labels = (int) before.stream().filter(c -> c.name.equals("label") && c.got >= 0).count();
        for (int l = 0; l < Math.min(labels, 3); l++) {
            for (int i = 0; i < 21; i++) {
                probe.addAll(parse("rule(" + l + ", 5, 1, 1, 1)"));
            }
        }
        return probe;
    }

    /** Which rows are built. */
    private static void checkRows(String what, List<Call> before, List<Call> behind) {
        Cellar plain = Cellar.of(before);
        Cellar asked = Cellar.of(behind);
        for (int r = 0; r < 20; r++) {
            due(what + ": lift(" + r + ", 0)", asked.ask("lift", r, 0), plain.ask("lift", r, 0));
        }
    }

    private static long barrels(List<Call> calls) {
        Cellar c = Cellar.of(calls);
        int b = 0;
        while (b < 1000 && c.ask("kindOf", b) != 0) {
            b++;
        }
        return b;
    }

    /** The index of the act that undo takes back. */
    private static int latestDone(List<Call> calls) {
        for (int i = calls.size() - 1; i >= 0; i--) {
            if (UNDONE.contains(calls.get(i).name) && calls.get(i).got >= 0) {
                return i;
            }
        }
        return 0;
    }

    private static void checkQuestion(String what, List<Call> before, Call call) {
        List<Call> behind = with(before, List.of(call));
        for (String question : new String[] {"why()", "tries()", "closed()", "which()", "digest()", "trace(0)"}) {
            Call other = new Call(question);
            due(what + " changed " + question, Cellar.of(behind).ask(other.name, other.numbers),
                Cellar.of(before).ask(other.name, other.numbers));
        }
    }

    /** What the questions tell behind these calls has to be what they tell behind the others. */
    private static void same(String what, List<Call> calls, List<Call> others, boolean picks) {
        TreeSet<String> questions = questions(calls, picks);
        questions.addAll(questions(others, picks));
        List<Long> got = answers(calls, questions);
        List<Long> want = answers(others, questions);
        int i = 0;
        for (String question : questions) {
            due(what + ": " + question, got.get(i), want.get(i));
            i++;
        }
    }

    private static List<Long> answers(List<Call> calls, TreeSet<String> questions) {
        List<Long> all = new ArrayList<>();
        Cellar c = Cellar.of(calls);
        for (String question : questions) {
            if (c.calls >= mostCalls) {
                c = Cellar.of(calls);
            }
            Call call = new Call(question);
            all.add(c.ask(call.name, call.numbers));
        }
        return all;
    }

    /** All but WHY, WHICH, tries and the trace; of lists the end, of parts and places those that were named. */
    private static TreeSet<String> questions(List<Call> calls, boolean picks) {
        Cellar c = Cellar.of(calls);
        long bottlings = c.ask("bottlings");
        long entries = c.ask("entries");
        TreeSet<String> all = new TreeSet<>(List.of("digest()", "month()", "bottlings()", "entries()", "odd()",
            "strays()", "closed()"));
        if (picks) {
            all.add("picked()");
            for (int i = 0; i < 7; i++) {
                all.add("planned(" + i + ")");
            }
        }
        for (int what = 0; what < 4; what++) {
            for (long i = Math.max(0, bottlings - 3); i < bottlings; i++) {
                all.add("bottling(" + i + ", " + what + ")");
            }
            for (long i = Math.max(0, entries - 9); i < entries; i++) {
                all.add("entry(" + i + ", " + what + ")");
            }
        }
        for (Call call : calls) {
            addQuestionsOf(call, all);
        }
        return all;
    }

    private static void addQuestionsOf(Call call, TreeSet<String> all) {
        if (call.name.equals("fill") && all.size() < 400) {
            for (int how = 0; how < 5; how++) {
                all.add("account(" + call.numbers[1] + ", " + how + ")");
            }
        }
        if (call.name.equals("lay")) {
            all.add("at(" + call.numbers[1] + ", " + call.numbers[2] + ")");
        }
        if (call.name.equals("lift")) {
            all.add("at(" + call.numbers[0] + ", " + call.numbers[1] + ")");
        }
    }

    /** Ends the test, and fails it if an answer was wrong or one of these promises has no edge. */
    static void end(int first, int last) {
        for (int promise = first; promise <= last; promise++) {
            due("edges of promise " + promise, TOLD.contains(promise) ? 1 : 0, 1);
        }
        System.out.println(edges + " edges, " + asked + " answers asked");
        System.out.println(wrong == 0 ? "all answers are as due" : wrong + " answers are not as due");
        if (wrong != 0) {
            System.exit(1);
        }
    }
}
