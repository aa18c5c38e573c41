import java.util.ArrayList;
import java.util.Arrays;
import java.util.List;
import java.util.Set;
import java.util.function.Supplier;
import java.util.function.ToIntFunction;

/**
 * All that can be asked of a country, so that two can be held against one another. No object is asked more often than
 * the document allows: for each part of the questions it is made anew.
 */
final class Snapshot {
    /** A question asks three times at most, so that two parts stay below 512 calls behind those that made the country. */
    private static final int PART = 60;
    static final List<Question> QUESTIONS = questions();
    private static final List<Question> PROBES = probes();

    private final int[] answers = new int[QUESTIONS.size() + PROBES.size()];

    static final class Question {
        final String name;
        final ToIntFunction<BoughtKin> ask;

        Question(String name, ToIntFunction<BoughtKin> ask) {
            this.name = name;
            this.ask = ask;
        }
    }

    Snapshot(Supplier<BoughtKin> made) {
        for (int from = 0; from < QUESTIONS.size(); from += PART) {
            BoughtKin x = made.get();
            for (int i = from; i < Math.min(from + PART, QUESTIONS.size()); i++) {
                answers[i] = QUESTIONS.get(i).ask.applyAsInt(x);
            }
        }
        for (int i = 0; i < PROBES.size(); i++) {
            answers[QUESTIONS.size() + i] = PROBES.get(i).ask.applyAsInt(made.get());
        }
    }

    static int parts() {
        return (QUESTIONS.size() + PART - 1) / PART;
    }

    static void askPart(BoughtKin x, int part) {
        for (int i = part * PART; i < Math.min((part + 1) * PART, QUESTIONS.size()); i++) {
            QUESTIONS.get(i).ask.applyAsInt(x);
        }
    }

    /** The name of the first question that is answered otherwise there, those aside; null: there is none. */
    String differsFrom(Snapshot other, Set<String> aside) {
        for (int i = 0; i < answers.length; i++) {
            Question question = i < QUESTIONS.size() ? QUESTIONS.get(i) : PROBES.get(i - QUESTIONS.size());
            if (answers[i] != other.answers[i] && !aside.contains(question.name)) {
                return question.name + ": " + answers[i] + " and " + other.answers[i];
            }
        }
        return null;
    }

    private static void add(List<Question> all, String name, ToIntFunction<BoughtKin> ask) {
        all.add(new Question(name, ask));
    }

    private static List<Question> questions() {
        List<Question> all = new ArrayList<>();
        for (int i = -1; i <= 17; i++) {
            int what = i;
            add(all, "count(" + what + ")", x -> x.count(what));
        }
        add(all, "status()", BoughtKin::status);
        add(all, "fault()", BoughtKin::fault);
        add(all, "stopped()", BoughtKin::stopped);
        add(all, "mould()", BoughtKin::mould);
        add(all, "forged()", BoughtKin::forged);
        for (int i = -1; i <= 6; i++) {
            int n = i;
            add(all, "chest(" + n + ")", x -> x.chest(n));
            add(all, "lies(" + n + ")", x -> x.lies(n));
            add(all, "secret(" + n + ")", x -> x.secret(n));
        }
        for (int i = 0; i <= 16; i++) {
            addOfOne(all, i);
            for (int k = 0; k <= 8; k++) {
                addOfTwo(all, i, k);
            }
        }
        return all;
    }

    private static void addOfOne(List<Question> all, int i) {
        for (int k = 0; k <= 11; k++) {
            int what = k;
            add(all, "of(" + i + ", " + what + ")", x -> x.of(i, what));
        }
        for (int k = 0; k <= 6; k++) {
            int what = k;
            add(all, "line(" + i + ", " + what + ")", x -> x.line(i, what));
        }
        for (int k = 0; k <= 2; k++) {
            int what = k;
            add(all, "drawn(" + i + ", " + what + ")", x -> x.drawn(i, what));
        }
    }

    private static void addOfTwo(List<Question> all, int i, int k) {
        String two = "(" + i + ", " + k + ")";
        add(all, "asks" + two, x -> x.asks(i, k, 0) * 10 + x.asks(i, k, 1) * 3 + x.asks(i, k, 2));
        add(all, "kin" + two, x -> x.kin(i, k, 0) * 1000 + x.kin(i, k, 1) * 30 + x.kin(i, k, 2));
        add(all, "marry" + two, x -> x.marry(i, k));
        add(all, "offers" + two, x -> x.offers(i, k));
        add(all, "join" + two, x -> x.join(i, k, 0) * 1000 + x.join(i, k, 1));
        add(all, "cheap" + two, x -> x.cheap(i, k - 1, 0) * 1000 + x.cheap(i, k - 1, 2));
    }

    /** What can be seen only by changing something: what is kept for later. */
    private static List<Question> probes() {
        List<Question> all = new ArrayList<>();
        add(all, "undone", x -> {
            int[] seen = new int[40];
            for (int i = 0; i < 17; i++) {
                seen[i] = x.undo();
                seen[17 + i] = x.of(i, 2);
            }
            return Arrays.hashCode(seen);
        });
        for (int i = 0; i < 2; i++) {
            int k = i;
            add(all, "image " + k, x -> {
                int[] seen = new int[120];
                seen[0] = x.back(k);
                for (int n = 0; n < 100; n++) {
                    seen[1 + n] = n < 6 ? x.count(n) : n < 11 ? x.count(n + 6) : x.of(n % 8, n / 8 - 1);
                }
                return Arrays.hashCode(seen);
            });
        }
        for (int i = 0; i < 6; i++) {
            int law = i;
            add(all, "law " + law, x -> x.force(law) * 1000000 + x.asks(0, 1, 0) * 100 + x.of(0, 10) + x.asks(1, 0, 1));
        }
        add(all, "tape as a row", x -> {
            x.back(0);
            return x.row() * 10000 + x.mould() * 100 + x.of(x.count(0) - 1, 4);
        });
        add(all, "tape as a law", x -> x.law() * 1000 + x.fault());
        add(all, "tape as orders", x -> x.orders() * 100000 + x.fault() * 100 + x.count(13));
        return all;
    }
}
