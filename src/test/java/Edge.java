/**
 * Boundary cases as rows of calls, each under the sentence of the document that it holds. A row is one of:
 * "call numbers", "call numbers = due", "act n n ..", "tape bytes", "text bytes", "text bytes = due",
 * "text bytes = FAULT number at place".
 */
final class Edge {
    private static final String[] NAMES =
        {"NONE", "BAD", "STATE", "FULL", "NULL", "PLACE", "KIND", "SIZE", "STORE", "MIN", "MAX"};
    private static final int[] NUMBERS =
        {NightLoom.NONE, NightLoom.BAD, NightLoom.STATE, NightLoom.FULL, Check.NULL, Check.PLACE, Check.KIND,
            Check.SIZE, Check.STORE, Integer.MIN_VALUE, Integer.MAX_VALUE};

    private Edge() { }

    /** The rows on a new object, which is given back. */
    static NightLoom run(String sentence, String... rows) {
        NightLoom x = new NightLoom();
        on(x, sentence, rows);
        return x;
    }

    static void on(NightLoom x, String sentence, String... rows) {
        for (String row : rows) {
            int sign = row.lastIndexOf(" = ");
            String call = sign < 0 ? row : row.substring(0, sign);
            String due = sign < 0 ? "" : row.substring(sign + 3);
            one(x, sentence + ": " + row, call, due);
        }
    }

    private static void one(NightLoom x, String told, String call, String due) {
        if (call.startsWith("act ")) {
            Check.act(x, numbers(call));
        } else if (call.startsWith("tape ")) {
            feed(x, call.substring(5));
        } else if (call.startsWith("text ")) {
            feed(x, call.substring(5));
            dueText(x, told, due);
        } else {
            int got = Calls.answer(x, call.split(" ")[0], numbers(call));
            if (!due.isEmpty()) {
                Check.due(told, got, number(due));
            }
        }
    }

    static void feed(NightLoom x, String bytes) {
        int before = x.count(7);
        for (int i = 0; i < bytes.length(); i++) {
            Check.due("feed of " + bytes + " at " + i, x.feed(bytes.charAt(i)), before + i + 1);
        }
    }

    private static void dueText(NightLoom x, String told, String due) {
        int got = x.loom();
        if (due.startsWith("FAULT ")) {
            String[] parts = due.split(" ");
            Check.due(told, got, -1000100 - Integer.parseInt(parts[3]));
            Check.due(told + ", its number", x.fault(), Integer.parseInt(parts[1]));
        } else if (due.isEmpty()) {
            Check.isTrue(told + " is read", got >= 0);
        } else {
            Check.due(told, got, number(due));
        }
    }

    private static int[] numbers(String call) {
        String[] words = call.split(" ");
        int[] numbers = new int[words.length - 1];
        for (int i = 1; i < words.length; i++) {
            numbers[i - 1] = number(words[i]);
        }
        return numbers;
    }

    private static int number(String word) {
        for (int i = 0; i < NAMES.length; i++) {
            if (NAMES[i].equals(word)) {
                return NUMBERS[i];
            }
        }
        return Integer.parseInt(word);
    }
}
