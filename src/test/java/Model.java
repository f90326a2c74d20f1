import java.util.ArrayList;
import java.util.List;

/**
 * The document's words put into lists as literally as can be, without a thought
 * for speed, to compare the program with.
 */
final class Model {
    /** An item of an out list; KEPT s if kept, else NEW c. */
    record Item(boolean kept, int value) {
    }

    record Delta(int in, List<Item> out) {
        boolean keeps(int s) {
            return out.contains(new Item(true, s));
        }

        /** The gap that the new item number t of the out list belongs to. */
        int gap(int t) {
            for (int i = t - 1; i >= 0; i--) {
                if (out.get(i).kept()) {
                    return out.get(i).value() + 1;
                }
            }
            return 0;
        }

        List<Integer> newIn(int gap) {
            List<Integer> numbers = new ArrayList<>();
            for (int t = 0; t < out.size(); t++) {
                if (!out.get(t).kept() && gap(t) == gap) {
                    numbers.add(t);
                }
            }
            return numbers;
        }

        List<Integer> steps() {
            List<Integer> kinds = new ArrayList<>();
            newIn(0).forEach(t -> kinds.add(TextDelta.ADD));
            for (int s = 0; s < in; s++) {
                kinds.add(keeps(s) ? TextDelta.KEEP : TextDelta.DROP);
                newIn(s + 1).forEach(t -> kinds.add(TextDelta.ADD));
            }
            return kinds;
        }

        List<Integer> runs() {
            List<Integer> runs = new ArrayList<>();
            List<Integer> kinds = steps();
            for (int i = 0; i < kinds.size(); i++) {
                if (i > 0 && kinds.get(i).equals(kinds.get(i - 1))) {
                    runs.set(runs.size() - 1, runs.get(runs.size() - 1) + 4);
                } else {
                    runs.add(kinds.get(i) + 4);
                }
            }
            return runs;
        }

        List<Integer> added() {
            List<Integer> letters = new ArrayList<>();
            out.stream().filter(item -> !item.kept()).forEach(item -> letters.add(item.value()));
            return letters;
        }
    }

    private final Delta[] slots = new Delta[4];
    private int workIn = 0;
    private int used = 0;
    private List<Item> work = new ArrayList<>();
    private List<Integer> document = new ArrayList<>();

    Model() {
        for (int slot = 0; slot < 4; slot++) {
            slots[slot] = new Delta(0, List.of());
        }
    }

    private static String text(Delta delta) {
        StringBuilder text = new StringBuilder(delta.in() + ">" + delta.out().size());
        delta.runs().forEach(run -> text.append(' ').append("?KDA".charAt(run % 4)).append(run / 4));
        text.append(" +");
        delta.added().forEach(text::append);
        return text.toString();
    }

    /** The document, the slots and the work, as Check's state and workOf tell them. */
    String whole() {
        StringBuilder text = new StringBuilder("\"");
        document.forEach(text::append);
        text.append('"');
        for (Delta delta : slots) {
            text.append(" [").append(text(delta)).append(']');
        }
        return text + " " + used + " " + text(new Delta(workIn, work));
    }

    private static boolean bad(int slot) {
        return slot < 0 || slot > 3;
    }

    private int put(int slot, int in, List<Item> out) {
        slots[slot] = new Delta(in, List.copyOf(out));
        return out.size();
    }

    int begin(int m) {
        if (m < 0 || m > 40) return TextDelta.BAD_ARG;
        workIn = m;
        used = 0;
        work = new ArrayList<>();
        return 0;
    }

    int keep(int k) {
        if (k < 1) return TextDelta.BAD_ARG;
        if (k > workIn - used) return TextDelta.BAD_LENGTH;
        if (work.size() + k > 40) return TextDelta.FULL;
        for (int i = 0; i < k; i++) {
            work.add(new Item(true, used + i));
        }
        used += k;
        return work.size();
    }

    int drop(int k) {
        if (k < 1) return TextDelta.BAD_ARG;
        if (k > workIn - used) return TextDelta.BAD_LENGTH;
        used += k;
        return used;
    }

    int add(int c) {
        if (c < 0 || c > 9) return TextDelta.BAD_ARG;
        if (work.size() == 40) return TextDelta.FULL;
        work.add(new Item(false, c));
        return work.size();
    }

    int finish(int slot) {
        if (bad(slot)) return TextDelta.BAD_ARG;
        List<Item> out = new ArrayList<>(work);
        for (int s = used; s < workIn; s++) {
            out.add(new Item(true, s));
        }
        if (out.size() > 40) return TextDelta.FULL;
        return put(slot, workIn, out);
    }

    int join(int a, int b, int to) {
        if (bad(a) || bad(b) || bad(to)) return TextDelta.BAD_ARG;
        if (slots[a].out().size() != slots[b].in()) return TextDelta.BAD_LENGTH;
        List<Item> out = new ArrayList<>();
        for (Item item : slots[b].out()) {
            out.add(item.kept() ? slots[a].out().get(item.value()) : item);
        }
        return put(to, slots[a].in(), out);
    }

    int carry(int a, int b, int aFirst, int to) {
        if (bad(a) || bad(b) || bad(to)) return TextDelta.BAD_ARG;
        Delta over = slots[a];
        Delta under = slots[b];
        if (over.in() != under.in()) return TextDelta.BAD_LENGTH;
        List<Item> out = new ArrayList<>(gapEntries(over, under, aFirst, 0));
        for (int s = 0; s < over.in(); s++) {
            if (over.keeps(s) && under.keeps(s)) {
                out.add(new Item(true, under.out().indexOf(new Item(true, s))));
            }
            out.addAll(gapEntries(over, under, aFirst, s + 1));
        }
        if (out.size() > 40) return TextDelta.FULL;
        return put(to, under.out().size(), out);
    }

    private static List<Item> gapEntries(Delta over, Delta under, int aFirst, int gap) {
        List<Item> ofA = new ArrayList<>();
        over.newIn(gap).forEach(t -> ofA.add(over.out().get(t)));
        List<Item> ofB = new ArrayList<>();
        under.newIn(gap).forEach(t -> ofB.add(new Item(true, t)));
        List<Item> entries = new ArrayList<>(aFirst != 0 ? ofA : ofB);
        entries.addAll(aFirst != 0 ? ofB : ofA);
        return entries;
    }

    int apply(int slot, int back) {
        if (bad(slot) || bad(back)) return TextDelta.BAD_ARG;
        Delta delta = slots[slot];
        if (document.size() != delta.in()) return TextDelta.BAD_LENGTH;
        List<Integer> text = new ArrayList<>();
        for (Item item : delta.out()) {
            text.add(item.kept() ? document.get(item.value()) : item.value());
        }
        List<Item> way = new ArrayList<>();
        for (int s = 0; s < document.size(); s++) {
            int t = delta.out().indexOf(new Item(true, s));
            way.add(t >= 0 ? new Item(true, t) : new Item(false, document.get(s)));
        }
        put(back, delta.out().size(), way);
        document = text;
        return text.size();
    }

    int type(int c) {
        if (c < 0 || c > 9) return TextDelta.BAD_ARG;
        if (document.size() == 40) return TextDelta.FULL;
        document.add(c);
        return document.size();
    }

    void clear() {
        document.clear();
    }

    int length() {
        return document.size();
    }

    private static int pick(List<Integer> list, int i) {
        return i >= 0 && i < list.size() ? list.get(i) : TextDelta.NONE;
    }

    int at(int i) {
        return pick(document, i);
    }

    int inLength(int slot) {
        return bad(slot) ? TextDelta.BAD_ARG : slots[slot].in();
    }

    int outLength(int slot) {
        return bad(slot) ? TextDelta.BAD_ARG : slots[slot].out().size();
    }

    int runs(int slot) {
        return bad(slot) ? TextDelta.BAD_ARG : slots[slot].runs().size();
    }

    int run(int slot, int i) {
        return bad(slot) ? TextDelta.BAD_ARG : pick(slots[slot].runs(), i);
    }

    int added(int slot, int i) {
        return bad(slot) ? TextDelta.BAD_ARG : pick(slots[slot].added(), i);
    }

    boolean same(int a, int b) {
        return !bad(a) && !bad(b) && slots[a].equals(slots[b]);
    }

    /** A boolean counts 1 or 0, and a call without an answer 0. */
    int answer(String name, int[] v) {
        switch (name) {
            case "begin": return begin(v[0]);
            case "keep": return keep(v[0]);
            case "drop": return drop(v[0]);
            case "add": return add(v[0]);
            case "finish": return finish(v[0]);
            case "join": return join(v[0], v[1], v[2]);
            case "carry": return carry(v[0], v[1], v[2], v[3]);
            case "apply": return apply(v[0], v[1]);
            case "type": return type(v[0]);
            case "clear": clear(); return 0;
            case "length": return length();
            case "at": return at(v[0]);
            case "inLength": return inLength(v[0]);
            case "outLength": return outLength(v[0]);
            case "runs": return runs(v[0]);
            case "run": return run(v[0], v[1]);
            case "added": return added(v[0], v[1]);
            case "same": return same(v[0], v[1]) ? 1 : 0;
            default: throw new IllegalArgumentException("no such call: " + name);
        }
    }
}
