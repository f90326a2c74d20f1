import java.util.ArrayList;
import java.util.List;

/**
 * Promises 6 to 9, by what every small delta and every pair of them does to a
 * text. All letters at hand differ (old ones 5 to 9, one delta's new ones 1 and 2,
 * the other's 3 and 4), so a text tells where each of its letters is from.
 */
public final class SmallDeltasTest {
    private static final Check check = new Check();
    private static final int MOST_IN = 3;
    private static final int MOST_NEW = 2;
    private static final String OLD = "56789";

    /** The out list as text: an old place s stands as the letter 'a' + s, a new item as its letter. */
    record Small(int in, String out) {
        String on(String text) {
            StringBuilder result = new StringBuilder();
            for (char item : out.toCharArray()) {
                result.append(item >= 'a' ? text.charAt(item - 'a') : item);
            }
            return result.toString();
        }

        String added() {
            return out.replaceAll("[a-z]", "");
        }

        boolean keeps(int s) {
            return out.indexOf('a' + s) >= 0;
        }

        /** The new items of a gap; gap 0 is before the first kept item. */
        String gap(int gap) {
            if (gap > 0 && !keeps(gap - 1)) {
                return "";
            }
            int from = gap == 0 ? 0 : out.indexOf('a' + gap - 1) + 1;
            return out.substring(from).replaceAll("[a-z].*", "");
        }
    }

    public static void main(String[] args) {
        for (int m = 0; m <= MOST_IN; m++) {
            for (Small a : all(m, '1')) {
                oneDeltaAndItsWayBack(a);
                all(a.out().length(), '3').forEach(b -> join(a, b));
                all(m, '3').forEach(b -> carryBothWays(a, b));
            }
        }
        check.end();
    }

    /** All deltas of in length m with up to two new items, the letter and the one after it. */
    private static List<Small> all(int m, char letter) {
        List<Small> deltas = new ArrayList<>();
        for (int kept = 0; kept < 1 << m; kept++) {
            StringBuilder places = new StringBuilder();
            for (int s = 0; s < m; s++) {
                places.append((kept >> s & 1) == 1 ? "" + (char) ('a' + s) : "");
            }
            addNew(deltas, m, places.toString(), letter, 0, MOST_NEW);
        }
        return deltas;
    }

    private static void addNew(List<Small> deltas, int m, String out, char letter, int from, int more) {
        deltas.add(new Small(m, out));
        for (int i = from; more > 0 && i <= out.length(); i++) {
            String longer = out.substring(0, i) + letter + out.substring(i);
            addNew(deltas, m, longer, (char) (letter + 1), i + 1, more - 1);
        }
    }

    /** The old places from the answer on are the end of the out list: finish keeps them. */
    private static int restOf(Small delta) {
        int rest = delta.in();
        int end = delta.out().length();
        while (end > 0 && delta.out().charAt(end - 1) == 'a' + rest - 1) {
            end--;
            rest--;
        }
        return rest;
    }

    private static void make(TextDelta x, int slot, Small delta) {
        int rest = restOf(delta);
        int items = delta.out().length() - (delta.in() - rest);
        x.begin(delta.in());
        int used = 0;
        for (char item : delta.out().substring(0, items).toCharArray()) {
            if (item >= 'a') {
                dropUpTo(x, used, item - 'a');
                x.keep(1);
                used = item - 'a' + 1;
            } else {
                x.add(item - '0');
            }
        }
        dropUpTo(x, used, rest);
        check.due(delta + " finish(" + slot + ")", x.finish(slot), delta.out().length());
    }

    private static void dropUpTo(TextDelta x, int used, int place) {
        if (place > used) {
            x.drop(place - used);
        }
    }

    private static TextDelta withText(String text) {
        TextDelta x = new TextDelta();
        Check.type(x, text);
        return x;
    }

    private static String added(TextDelta x, int slot) {
        String all = Check.delta(x, slot);
        return all.substring(all.indexOf('+') + 1);
    }

    private static void oneDeltaAndItsWayBack(Small a) {
        String text = OLD.substring(0, a.in());
        TextDelta x = withText(text);
        make(x, 0, a);
        check.due(a + " new items", added(x, 0), a.added());
        check.due(a + " apply(0, 1)", x.apply(0, 1), a.out().length());
        check.due(a + " gives", Check.document(x), a.on(text));
        check.due(a + " way back", x.inLength(1), a.out().length());
        String dropped = text.replaceAll("[" + a.on(text) + "0]", "");
        check.due(a + " new items of the way back", added(x, 1), dropped);
        check.due(a + " apply(1, 2)", x.apply(1, 2), a.in());
        check.due(a + " and back", Check.document(x), text);
        check.due(a + " is the way back's way back", x.same(0, 2), true);
    }

    private static void join(Small a, Small b) {
        String text = OLD.substring(0, a.in());
        String due = b.on(a.on(text));
        TextDelta x = withText(text);
        make(x, 0, a);
        make(x, 1, b);
        String what = a + " and then " + b;
        check.due(what, x.join(0, 1, 2), due.length());
        check.due(what + ": in length", x.inLength(2), a.in());
        check.due(what + ": new items", added(x, 2), due.replaceAll("[5-9]", ""));
        x.apply(2, 3);
        check.due(what + ": text", Check.document(x), due);
    }

    private static void carryBothWays(Small a, Small b) {
        for (int aFirst = 0; aFirst <= 1; aFirst++) {
            TextDelta x = new TextDelta();
            make(x, 0, a);
            make(x, 1, b);
            String due = merged(aFirst == 1 ? a : b, aFirst == 1 ? b : a);
            carry(x, 0, a, b, aFirst, due);
            carry(x, 1, b, a, 1 - aFirst, due);
            x.join(1, 2, 1);
            x.join(0, 3, 0);
            check.due(a + " and " + b + " meet", x.same(0, 1), true);
        }
    }

    private static void carry(TextDelta x, int over, Small a, Small b, int aFirst, String due) {
        int to = 2 + over;
        String what = a + " over " + b + ", " + aFirst;
        check.due(what, x.carry(over, 1 - over, aFirst, to), due.length());
        check.due(what + ": in length", x.inLength(to), b.out().length());
        check.due(what + ": new items", added(x, to), inOrderOf(due, a.added()));
        x.clear();
        Check.type(x, b.on(OLD));
        x.apply(to, over);
        check.due(what + ": text", Check.document(x), due);
        // The way back went over a's slot.
        make(x, over, a);
    }

    private static String inOrderOf(String text, String letters) {
        return letters.isEmpty() ? "" : text.replaceAll("[^" + letters + "]", "");
    }

    /** The text of the merged list. */
    private static String merged(Small one, Small other) {
        StringBuilder text = new StringBuilder(one.gap(0) + other.gap(0));
        for (int s = 0; s < one.in(); s++) {
            text.append(one.keeps(s) && other.keeps(s) ? "" + OLD.charAt(s) : "");
            text.append(one.gap(s + 1)).append(other.gap(s + 1));
        }
        return text.toString();
    }
}
