import java.util.ArrayList;
import java.util.Collections;
import java.util.List;

/**
 * All that can be seen of an object: what every call would answer, and what every deed would lead
 * to. Each row of calls is made on an object of its own, so that none spoils what another one sees.
 */
final class Sight {
    private static final int QUESTIONS_IN_A_ROW = 90;
    private static final List<String> STATE = state();
    private static final List<List<String>> ROWS = rows();

    private Sight() {
    }

    static long[] of(Scene scene) {
        return ROWS.stream().flatMapToLong(row -> java.util.Arrays.stream(scene.answersOf(row))).toArray();
    }

    /** The first answer in which two sights differ, as a text; none if they are the same. */
    static String difference(long[] one, long[] other) {
        int place = 0;
        for (List<String> row : ROWS) {
            for (int i = 0; i < row.size(); i++, place++) {
                if (one[place] != other[place]) {
                    return String.join(", ", row.subList(0, i + 1)) + ": " + one[place] + " and " + other[place];
                }
            }
        }
        return "";
    }

    /** Names, contract, how many can be undone, the text's length, the trace. */
    private static List<String> state() {
        List<String> calls = new ArrayList<>();
        for (int k = -1; k < 12; k++) {
            for (int h = 0; h < 6; h++) {
                calls.add("name " + h + " " + k);
            }
            calls.add("contract " + k);
        }
        Collections.addAll(calls, "now 0", "now 1", "now 2", "now 3", "count 0", "count 1", "trace");
        return calls;
    }

    private static List<List<String>> rows() {
        List<List<String>> rows = new ArrayList<>();
        List<String> questions = new ArrayList<>(STATE);
        questionsOfHerders(questions);
        questionsOfAll(questions);
        for (int from = 0; from < questions.size(); from += QUESTIONS_IN_A_ROW) {
            rows.add(questions.subList(from, Math.min(questions.size(), from + QUESTIONS_IN_A_ROW)));
        }
        deeds(rows);
        texts(rows);
        pasts(rows);
        return rows;
    }

    private static void questionsOfHerders(List<String> calls) {
        for (int h = -1; h <= 6; h++) {
            Collections.addAll(calls, "alike " + h, "ring " + h, "root " + h, "order " + h, "share " + h + " 99");
            for (int d = 0; d <= 12; d += 3) {
                calls.add("mixed " + h + " " + d);
            }
            for (int other = 0; other < 6; other++) {
                Collections.addAll(calls, "way " + h + " " + other, "cold " + h + " " + other + " 3 0",
                        "cold " + h + " " + other + " 3 1");
            }
        }
    }

    private static void questionsOfAll(List<String> calls) {
        for (int n = 1; n <= 4; n++) {
            for (int d = 1; d <= 4; d++) {
                calls.add("newName " + n + " " + d + " -1");
                calls.add("newName " + n + " " + d + " " + (n - 1));
            }
            calls.add("pulls " + (n - 1));
        }
        for (int k = -1; k <= 6; k++) {
            calls.add("lives " + k);
            calls.add("porridge 3 6 " + Math.max(0, k) + " 0");
        }
        Collections.addAll(calls, "next", "back 2", "keep 2", "now 4", "rate 6 0");
    }

    /** A row that begins with some calls and then looks at the state. */
    private static void look(List<List<String>> rows, String... first) {
        List<String> row = new ArrayList<>(List.of(first));
        row.addAll(STATE);
        rows.add(row);
    }

    private static void deeds(List<List<String>> rows) {
        for (int h = 0; h < 6; h++) {
            for (int other = 0; other < 6; other++) {
                look(rows, "ties " + h + " " + other);
                look(rows, "bends " + h + " " + other);
                look(rows, "rate " + h + " " + other);
            }
            look(rows, "loosens " + h);
            look(rows, "unties " + h);
            look(rows, "adds " + h);
        }
        look(rows, "tears");
    }

    private static void texts(List<List<String>> rows) {
        look(rows, "clear");
        look(rows, "clear", "camp", "back 0", "back 1", "undo");
        look(rows, "camp");
        look(rows, "type 59", "camp");
        look(rows, "type 117", "type 59", "camp");
        look(rows, "type 255", "camp");
    }

    private static void pasts(List<List<String>> rows) {
        for (int image = 0; image < 2; image++) {
            look(rows, "back " + image);
            look(rows, "back " + image, "undo", "back " + (1 - image));
            look(rows, "keep " + image, "unties 0", "back " + image);
            look(rows, "keep " + image, "back " + (1 - image));
        }
        for (int undone = 1; undone <= 11; undone++) {
            look(rows, Collections.nCopies(undone, "undo").toArray(new String[0]));
        }
        look(rows, "adds 5", "undo", "undo");
        look(rows, "unties 0", "tears", "undo", "undo", "undo");
    }
}
