import java.lang.reflect.Method;
import java.util.ArrayList;
import java.util.List;

/** Every promise is broken in every way that Watch knows, and a test has to find each: see BrokenTest. */
final class Breaks {
    private interface Test {
        void run(String... args);
    }

    /** The promises from 2 on, in the document's order, with the answers that it tells of; 2: 2 or more. */
    private static final String[] ANSWERS = {
        "unit 0 1 2 BAD FULL", "asks 1 BAD NOUGHT", "asked 0 1 2", "trace 1 2 NONE", "above 0 1 2 BAD FULL RING",
        "cut 0 1 2 BAD FULL CAST RING", "fill 0 1 2 BAD FULL CAST RING", "bond 0 1 BAD FULL RING", "ring 0 1 2 NONE", "relation 0 1 2 BAD",
        "later 0 1 BAD", "block 0 1 2 BAD", "chart 0 1 2 NONE", "row 0 1 2 BAD", "tray 0 1 2 BAD FULL SIZE", "lose 0 1 BAD FULL",
        "coin 1 BAD FULL NOTHING BEYOND STATE", "sample 1 BAD FULL NOTHING BEYOND STATE", "sherds 0 1 2 BAD FULL NOTHING BEYOND CAST STATE",
        "note 1 2 BAD FULL NOTHING BEYOND CAST STATE", "bag 1 2 BAD FULL SIZE NOTHING BEYOND STATE", "take 0 1 2 3 4 BAD FULL NOTHING BEYOND",
        "move 0 1 2 3 4 BAD FULL NOTHING BEYOND STORE STATE", "kind 0 1 2 3 4 NONE BAD NOTHING BEYOND", "sherd 0 1 2 BAD NOTHING BEYOND CAST",
        "year 1 BAD NOTHING BEYOND CAST", "grain 1 BAD NOTHING BEYOND CAST", "letter 2 BAD NOTHING BEYOND CAST",
        "bagged 1 2 BAD NOTHING BEYOND CAST", "mark 0 1 2 BAD FULL NOTHING BEYOND CAST", "copy 0 1 2 BAD FULL",
        "join 1 2 BAD FULL NOTHING BEYOND CAST", "joins 0 1 2 BAD", "total 0 1 2 BAD", "share 0 1 2 BAD NOUGHT", "span 1 BAD FULL",
        "drawn 1 BAD", "quarrel 0 1 2", "because 1 NONE", "orders 1 2 STATE", "first 0 1 2 STATE", "next 0 1 STATE", "place 0 1 2 NONE",
        "undo 0 1 2 STATE", "count 0 1 2 BAD", "status 0 BAD STATE FULL RING NOTHING BEYOND CAST SIZE STORE", "digest 0"};
    /** The calls whose last argument is a 'what', and how many of them there are. */
    private static final String[] WHATS = {"asks 5", "relation 4", "drawn 3", "because 9", "count 13"};
    private static final String[] REFUSALS = {"BAD -1", "STATE -2", "FULL -3", "RING -4", "NONE -5", "NOTHING -11", "BEYOND -12", "CAST -13",
        "NOUGHT -14", "SIZE -15", "STORE -16"};
    private static final Test[] TESTS = {EdgesOfUnitsTest::main, EdgesOfRelationsTest::main, EdgesOfTraysTest::main, EdgesOfFindsTest::main,
        EdgesOfSpansTest::main, EdgesOfSequencesTest::main, EdgesOfBookTest::main, EdgesOfWhatStaysTest::main};
    private static final int[] LAST_PROMISES = {5, 15, 25, 36, 40, 44, 48};

    private final List<String> unfound = new ArrayList<>();
    private int tried;

    private static long numberOf(String answer) {
        for (String r : REFUSALS) {
            if (r.startsWith(answer + " ")) {
                return Long.parseLong(r.substring(r.indexOf(' ') + 1));
            }
        }
        return Long.parseLong(answer);
    }

    private static boolean isFound(int promise) {
        int near = 0;
        while (LAST_PROMISES[near] < promise) {
            near++;
        }
        for (int i = 0; i < TESTS.length; i++) {
            try {
                TESTS[(near + i) % TESTS.length].run();
            } catch (Dig.Found e) {
                return true;
            }
        }
        return false;
    }

    private void breakIt(int promise, Watch.How how, String name, long which, long what) {
        Watch.broken = new Watch.Broken(how, name, which, what);
        tried++;
        if (!isFound(promise)) {
            unfound.add("promise " + promise + ": " + Watch.broken);
        }
    }

    private void breakAnswers(int promise, String[] words) {
        for (int i = 1; i < words.length; i++) {
            long answer = numberOf(words[i]);
            breakIt(promise, Watch.How.ANSWER, words[0], answer, Watch.ANY);
            if (answer <= Dig.NOTHING && !words[0].equals("status")) {
                breakIt(promise, Watch.How.UNCOUNTED, words[0], answer, Watch.ANY);
            }
        }
    }

    private void breakWhats(int promise, String name) {
        for (String w : WHATS) {
            if (w.startsWith(name + " ")) {
                int whats = Integer.parseInt(w.substring(name.length() + 1));
                for (int what = 0; what < whats; what++) {
                    breakIt(promise, Watch.How.ANSWER, name, 1, what);
                    if (name.equals("count")) {
                        breakIt(promise, Watch.How.ANSWER, name, 0, what);
                        breakIt(promise, Watch.How.ANSWER, name, 2, what);
                    }
                    if (Watch.TELLING.contains(name)) {
                        breakIt(promise, Watch.How.TOLD, name, 1, what);
                    }
                }
            }
        }
        if (name.equals("year") || name.equals("grain")) {
            breakIt(promise, Watch.How.TOLD, name, 1, 0);
            breakIt(promise, Watch.How.TOLD, name, 1, 1);
        }
    }

    private void breakAct(int promise, String[] words) {
        String name = words[0];
        breakIt(promise, Watch.How.UNDONE, name, 0, Watch.ANY);
        breakIt(45, Watch.How.STAYS, name, 0, Watch.ANY);
        breakIt(47, Watch.How.STATUS, name, 0, Watch.ANY);
        for (int i = 1; i < words.length; i++) {
            long answer = numberOf(words[i]);
            if (answer < 0) {
                breakIt(promise, Watch.How.REFUSED, name, answer, Watch.ANY);
                breakIt(47, Watch.How.STATUS, name, answer, Watch.ANY);
            }
        }
    }

    /** What a call leaves as it is, is lost behind it. */
    private void breakWhatStays(int promise, String name) {
        boolean act = Watch.ACTS.contains(name);
        boolean undo = name.equals("undo");
        if (undo || List.of("unit", "above", "cut", "fill", "bond").contains(name)) {
            breakIt(promise, Watch.How.AT_HAND, name, 0, Watch.ANY);
        } else if (!name.equals("first")) {
            breakIt(promise, Watch.How.LOSES_HAND, name, 0, Watch.ANY);
        }
        if (!undo) {
            breakIt(promise, Watch.How.LOSES_RING, name, 0, Watch.ANY);
        }
        breakIt(promise, Watch.How.LOSES_TRACE, name, 0, Watch.ANY);
        breakIt(promise, Watch.How.LOSES_ASKED, name, 0, Watch.ANY);
        if (!act) {
            breakIt(promise, Watch.How.LOSES_STATUS, name, 0, Watch.ANY);
        }
    }

    private void breakArguments(int promise, Method m) {
        Class<?>[] types = m.getParameterTypes();
        // It is one and the same which UNIT is told first.
        boolean alike = m.getName().equals("bond") || m.getName().equals("joins");
        for (int i = 0; i < types.length; i++) {
            breakIt(promise, Watch.How.ONE_MORE, m.getName(), i, Watch.ANY);
            breakIt(promise, Watch.How.ONE_LESS, m.getName(), i, Watch.ANY);
            for (int j = i + 1; j < types.length; j++) {
                if (types[i] == types[j] && !alike) {
                    breakIt(promise, Watch.How.SWAPPED, m.getName(), i, j);
                }
            }
        }
    }

    private void breakAll() {
        breakIt(1, Watch.How.NEW, "DigHouse", 0, Watch.ANY);
        for (int i = 0; i < ANSWERS.length; i++) {
            String[] words = ANSWERS[i].split(" ");
            breakAnswers(i + 2, words);
            breakWhats(i + 2, words[0]);
            if (Watch.ACTS.contains(words[0])) {
                breakAct(i + 2, words);
            }
            breakWhatStays(i + 2, words[0]);
            for (Method m : DigHouse.class.getMethods()) {
                if (m.getName().equals(words[0])) {
                    breakArguments(i + 2, m);
                }
            }
        }
        for (String leftOut : new String[] {"bond", "lose", "copy"}) {
            breakIt(45, Watch.How.ENTERED, leftOut, 0, Watch.ANY);
        }
        for (int why : new int[] {Dig.NOTHING, Dig.BEYOND, Dig.STATE}) {
            breakIt(32, Watch.How.STATUS, "copy", why, Watch.ANY);
        }
        breakIt(32, Watch.How.UNCOUNTED, "copy", Dig.NOTHING, Watch.ANY);
        breakIt(32, Watch.How.UNCOUNTED, "copy", Dig.BEYOND, Watch.ANY);
    }

    /** What no test found; with nothing broken no test may find anything. */
    static List<String> unfound() {
        Breaks all = new Breaks();
        Dig.trial = true;
        if (isFound(1)) {
            all.unfound.add("that nothing is broken at first");
        }
        all.breakAll();
        System.out.println("BrokenTest: " + all.tried + " ways to break promises 1 to " + (ANSWERS.length + 1) + ", " + all.unfound.size()
            + " not found");
        return all.unfound;
    }
}
