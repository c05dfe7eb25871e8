import java.util.ArrayList;
import java.util.Arrays;
import java.util.HashMap;
import java.util.List;
import java.util.Map;
import java.util.TreeSet;

/**
 * The document read a second time, by other means than ValueMill's: sets instead of bits, ways
 * searched point by point, and one plain interpreter for all stages.
 */
final class Model {
    record Op(int kind, int d, int a, int b) {
    }

    record Call(int number, int with, int made) {
    }

    final List<List<Op>> ops = new ArrayList<>();
    final List<int[]> ends = new ArrayList<>();
    final int[] told = new int[32];

    int ending;
    int value;
    int entered;
    int[] words = new int[32];
    List<Call> calls = new ArrayList<>();

    /** What the entry reaches without one block, kept until an edge is told; -1 bars none. */
    private final Map<Integer, TreeSet<Integer>> reachedWithout = new HashMap<>();

    int block() {
        if (ops.size() == 10) {
            return -1;
        }
        reachedWithout.clear();
        ops.add(new ArrayList<>());
        ends.add(new int[] {0});
        return ops.size() - 1;
    }

    boolean has(int block) {
        return block >= 0 && block < ops.size();
    }

    static boolean temp(int t) {
        return t >= 0 && t <= 9;
    }

    boolean op(int block, int kind, int d, int a, int b) {
        if (!has(block) || ops.get(block).size() == 12 || kind < 0 || kind > 18) {
            return false;
        }
        boolean dFits = kind == 17 ? d == 0 : temp(d);
        boolean aFits = kind == 0 || temp(a);
        boolean bFits = kind == 0 || kind == 1 || kind == 16 ? b == 0 : temp(b);
        if (!dFits || !aFits || !bFits) {
            return false;
        }
        ops.get(block).add(new Op(kind, d, a, b));
        return true;
    }

    boolean jump(int block, int to) {
        if (!has(block) || !has(to)) {
            return false;
        }
        reachedWithout.clear();
        ends.set(block, new int[] {-1, to});
        return true;
    }

    boolean branch(int block, int t, int yes, int no) {
        if (!has(block) || !temp(t) || !has(yes) || !has(no)) {
            return false;
        }
        reachedWithout.clear();
        ends.set(block, new int[] {t, yes, no});
        return true;
    }

    boolean ret(int block, int t) {
        if (!has(block) || !temp(t)) {
            return false;
        }
        reachedWithout.clear();
        ends.set(block, new int[] {t});
        return true;
    }

    boolean memory(int i, int v) {
        if (i < 0 || i > 31) {
            return false;
        }
        told[i] = v;
        return true;
    }

    // ---- running

    int run(int stage, int registers, int fuel) {
        if (ops.isEmpty() || stage < 0 || stage > 3 || registers < 2 || registers > 8 || fuel < 0 || fuel > 500) {
            return -1;
        }
        words = told.clone();
        calls = new ArrayList<>();
        entered = 0;
        value = 0;
        int[] temps = new int[10];
        int at = 0;
        while (true) {
            if (entered == fuel) {
                return ending = 3;
            }
            entered++;
            for (Op op : ops.get(at)) {
                int stop = perform(op, temps);
                if (stop != 0) {
                    return ending = stop;
                }
            }
            int[] end = ends.get(at);
            if (end.length == 1) {
                value = temps[end[0]];
                return ending = 0;
            }
            at = end.length == 2 || temps[end[0]] != 0 ? end[1] : end[2];
        }
    }

    private int perform(Op op, int[] temps) {
        int x = op.kind == 0 ? op.a : temps[op.a];
        int y = op.kind >= 2 && op.kind <= 15 || op.kind == 17 ? temps[op.b] : op.b;
        if (op.kind == 5 || op.kind == 6) {
            if (y == 0 || x == Integer.MIN_VALUE && y == -1) {
                return 1;
            }
        }
        if (op.kind == 16 && (x < 0 || x > 31) || op.kind == 17 && (y < 0 || y > 31)) {
            return 2;
        }
        if (op.kind == 17) {
            words[y] = x;
            return 0;
        }
        temps[op.d] = switch (op.kind) {
            case 0, 1 -> x;
            case 2 -> x + y;
            case 3 -> x - y;
            case 4 -> x * y;
            case 5 -> x / y;
            case 6 -> x % y;
            case 7 -> x & y;
            case 8 -> x | y;
            case 9 -> x ^ y;
            case 10 -> x << y;
            case 11 -> x >> y;
            case 12 -> x >>> y;
            case 13 -> x == y ? 1 : 0;
            case 14 -> x < y ? 1 : 0;
            case 15 -> Integer.compareUnsigned(x, y) < 0 ? 1 : 0;
            case 16 -> words[x];
            default -> x * 31 + y + 7 * calls.size();
        };
        if (op.kind == 18) {
            calls.add(new Call(y, x, temps[op.d]));
        }
        return 0;
    }

    int word(int i) {
        return i >= 0 && i < 32 ? words[i] : 0;
    }

    int call(int k, int what) {
        if (k < 0 || k >= 200 || k >= calls.size() || what < 0 || what > 2) {
            return 0;
        }
        Call call = calls.get(k);
        return what == 0 ? call.number : what == 1 ? call.with : call.made;
    }

    // ---- looking

    int[] edges(int block) {
        int[] end = ends.get(block);
        return Arrays.copyOfRange(end, 1, Math.max(1, end.length));
    }

    /** Blocks on ways from one block that never come by the barred one. */
    private TreeSet<Integer> reached(int from, int barred) {
        TreeSet<Integer> found = new TreeSet<>();
        ArrayList<Integer> open = new ArrayList<>();
        open.add(from);
        while (!open.isEmpty()) {
            int block = open.remove(open.size() - 1);
            if (block != barred && found.add(block)) {
                for (int to : edges(block)) {
                    open.add(to);
                }
            }
        }
        return found;
    }

    private TreeSet<Integer> fromEntry(int barred) {
        return reachedWithout.computeIfAbsent(barred, without -> reached(0, without));
    }

    boolean alive(int block) {
        return has(block) && fromEntry(-1).contains(block);
    }

    private void note(int block, TreeSet<Integer> seen, ArrayList<Integer> noted) {
        if (!seen.add(block)) {
            return;
        }
        for (int to : edges(block)) {
            note(to, seen, noted);
        }
        noted.add(0, block);
    }

    int order(int k) {
        ArrayList<Integer> noted = new ArrayList<>();
        if (!ops.isEmpty()) {
            note(0, new TreeSet<>(), noted);
        }
        return k >= 0 && k < noted.size() ? noted.get(k) : -1;
    }

    boolean dominates(int one, int other) {
        return alive(one) && alive(other) && !fromEntry(one).contains(other);
    }

    int nearest(int block) {
        for (int one = 0; one < ops.size(); one++) {
            if (one == block || !dominates(one, block)) {
                continue;
            }
            boolean all = true;
            for (int other = 0; other < ops.size(); other++) {
                boolean isOther = other != one && other != block && dominates(other, block);
                all &= !isOther || dominates(other, one);
            }
            if (all) {
                return one;
            }
        }
        return -1;
    }

    boolean frontier(int block, int c) {
        if (!alive(block) || !alive(c) || block != c && dominates(block, c)) {
            return false;
        }
        for (int from = 0; from < ops.size(); from++) {
            for (int to : edges(from)) {
                if (to == c && dominates(block, from)) {
                    return true;
                }
            }
        }
        return false;
    }

    boolean live(int block, int t) {
        if (!has(block) || !temp(t)) {
            return false;
        }
        TreeSet<Integer> begun = new TreeSet<>();
        ArrayList<Integer> open = new ArrayList<>();
        open.add(block);
        while (!open.isEmpty()) {
            int at = open.remove(open.size() - 1);
            if (!begun.add(at)) {
                continue;
            }
            int how = first(at, t);
            if (how == 1) {
                return true;
            }
            if (how == 0) {
                for (int to : edges(at)) {
                    open.add(to);
                }
            }
        }
        return false;
    }

    /** What comes first in a block: 1 a use of the temporary, 2 it becomes something, 0 neither. */
    private int first(int block, int t) {
        for (Op op : ops.get(block)) {
            boolean usesA = op.kind != 0 && op.a == t;
            boolean usesB = (op.kind >= 2 && op.kind <= 15 || op.kind == 17) && op.b == t;
            if (usesA || usesB) {
                return 1;
            }
            if (op.kind != 17 && op.d == t) {
                return 2;
            }
        }
        int[] end = ends.get(block);
        return end[0] == t ? 1 : 0;
    }

    boolean phi(int block, int t) {
        if (!alive(block) || !live(block, t)) {
            return false;
        }
        TreeSet<Integer> set = new TreeSet<>();
        ArrayList<Integer> open = new ArrayList<>();
        open.add(0);
        for (int b = 0; b < ops.size(); b++) {
            for (Op op : ops.get(b)) {
                if (alive(b) && op.kind != 17 && op.d == t) {
                    open.add(b);
                }
            }
        }
        while (!open.isEmpty()) {
            int from = open.remove(open.size() - 1);
            for (int c = 0; c < ops.size(); c++) {
                if (frontier(from, c) && set.add(c)) {
                    open.add(c);
                }
            }
        }
        return set.contains(block);
    }

    int depth(int block) {
        if (!alive(block)) {
            return -1;
        }
        int loops = 0;
        for (int head = 0; head < ops.size(); head++) {
            boolean isHead = false;
            boolean in = block == head;
            for (int tail = 0; tail < ops.size(); tail++) {
                for (int to : edges(tail)) {
                    if (to == head && dominates(head, tail)) {
                        isHead = true;
                        in |= reached(block, head).contains(tail);
                    }
                }
            }
            loops += isHead && in ? 1 : 0;
        }
        return loops;
    }
}
