import java.util.ArrayList;
import java.util.List;

/**
 * Whether a call changes anything that later calls show: two objects with the same story, the call on one of them alone;
 * then all that can be asked is asked of both. As some questions change what they ask for, they are asked in parts, each
 * of new twins, so that no object has more than 512 calls.
 */
final class Twins {
    interface Story {
        NightLoom tell();
    }

    private static final int PARTS = 6;

    private Twins() { }

    /** The call, by its row; status is due to be as told, or as it was before, if that is null. */
    static void changesNothing(String sentence, Story story, Integer status, String... rows) {
        for (int part = 0; part < PARTS; part++) {
            NightLoom one = story.tell();
            NightLoom other = story.tell();
            Edge.on(one, sentence, rows);
            Check.due(sentence + ": status behind " + rows[0], one.status(), status == null ? other.status() : status);
            List<Integer> got = shown(one, part);
            List<Integer> due = shown(other, part);
            Check.due(sentence + ": answers behind " + rows[0], got.size(), due.size());
            for (int i = 0; i < due.size() && i < got.size(); i++) {
                Check.due(sentence + ": answer " + i + " of part " + part + " behind " + rows[0], got.get(i), due.get(i));
            }
        }
    }

    private static List<Integer> shown(NightLoom x, int part) {
        List<Integer> answers = new ArrayList<>();
        switch (part) {
            case 0: showAll(x, answers); break;
            case 1: showPast(x, answers); break;
            case 2: showImages(x, answers); break;
            case 3: showItems(x, answers); break;
            case 4: showTape(x, answers); break;
            default: showWhatComes(x, answers); break;
        }
        return answers;
    }

    private static void showLoom(NightLoom x, List<Integer> answers) {
        for (int what = 1; what < 7; what++) {
            answers.add(x.count(what));
        }
        for (int what = 0; what < 7; what++) {
            answers.add(x.cloth(what));
        }
        for (int suitor = 0; suitor < 5; suitor++) {
            answers.add(x.kind(suitor));
            for (int what = 0; what < 5; what++) {
                answers.add(x.suitor(suitor, what));
            }
        }
        for (int place = 0; place < 24; place++) {
            answers.add(x.colour(place));
        }
    }

    private static void showAll(NightLoom x, List<Integer> answers) {
        showLoom(x, answers);
        answers.add(x.count(0));
        answers.add(x.count(7));
        answers.add(x.fault());
        for (int i = 0; i < 8; i++) {
            answers.add(x.trace(i));
        }
        for (int what = 0; what < 3; what++) {
            answers.add(x.twice(what));
            answers.add(x.longest(what));
            answers.add(x.holds(1, 0, what));
            answers.add(x.holds(2, 3, what));
            answers.add(x.holds(0, 1, what));
        }
        for (int suitor = 0; suitor < 5; suitor++) {
            answers.add(x.soonest(suitor, 1, 1, 0));
            answers.add(x.soonest(suitor, 2, 2, 1));
        }
        for (int k = 0; k < 9; k++) {
            answers.add(x.looks(k));
        }
    }

    private static void showPast(NightLoom x, List<Integer> answers) {
        for (int i = 0; i < 25; i++) {
            answers.add(x.undo());
            for (int what = 0; what < 6; what++) {
                answers.add(x.cloth(what));
            }
            for (int suitor = 0; suitor < 5; suitor++) {
                answers.add(x.suitor(suitor, 2));
                answers.add(x.suitor(suitor, 4));
            }
        }
    }

    private static void showImages(NightLoom x, List<Integer> answers) {
        for (int k = 0; k < 2; k++) {
            answers.add(x.restore(k));
            showLoom(x, answers);
        }
    }

    /** ITEMS are told apart as far as they are 0 to 6; the LANE by what is cut, the size by dropping. */
    private static void showItems(NightLoom x, List<Integer> answers) {
        x.loom();
        Edge.on(x, "twins", "text l24,99,9,0,0,0;c0;", "act 0");
        for (int hang = 0; hang <= 6; hang++) {
            for (int row = 0; row < 8; row++) {
                for (int i = 0; i < 5; i++) {
                    answers.add(x.seen(row, i, 1, 0));
                }
            }
            Check.act(x, 0, 1);
        }
        for (int row = 0; row < 8; row++) {
            answers.add(x.set(row, 0, 70000));
            answers.add(x.drop(row));
        }
    }

    private static void showTape(NightLoom x, List<Integer> answers) {
        answers.add(x.count(7));
        answers.add(x.feed('9'));
        answers.add(x.loom());
        answers.add(x.fault());
        showLoom(x, answers);
    }

    private static void showWhatComes(NightLoom x, List<Integer> answers) {
        int[] threads = {1, 1, 2, 0, 0, 2, 3, 1, 0, 0};
        for (int n : threads) {
            answers.add(x.weave(n));
            answers.add(x.unpick(n));
            answers.add(x.cloth(3));
            answers.add(x.cloth(4));
            answers.add(x.count(5));
        }
        showLoom(x, answers);
    }
}
