import java.util.ArrayList;
import java.util.HashMap;
import java.util.HashSet;
import java.util.LinkedHashSet;
import java.util.List;
import java.util.Map;
import java.util.Set;
import java.util.TreeMap;

/** Long runs of mixed calls on KeyHall and on a plain model over the Java library: their answers are the same. */
public final class KeyHallModel {
    private static final long NOTHING = 1L << 62;
    private static final int CALLS = 512;
    private static final int SIZES = 7;
    private static final int LONGEST_TURN = 14;

    private static final int[] EDGES = {
        Integer.MIN_VALUE, Integer.MIN_VALUE + 1, -1, 0, 1, 1 << 30, Integer.MAX_VALUE - 1, Integer.MAX_VALUE
    };

    // The kinds of calls that a run is about: all of them, or the ones of one part of the document.
    private static final int[][] THEMES = {
        {0, 1, 2, 3, 4, 5, 6, 7, 8, 9, 10, 11, 12, 13, 14, 15, 16, 17, 18, 19, 20, 21, 22, 23, 24, 25, 26, 27},
        {0, 0, 0, 0, 1, 2, 3},
        {0, 0, 0, 1, 2, 3, 4, 5, 5, 5, 5, 6, 7, 7, 8},
        {9, 9, 9, 9, 10, 10, 11, 12},
        {13, 13, 13, 14, 15, 15, 16, 17, 18, 19},
        {13, 13, 15, 15, 16, 17, 17, 18},
        {20, 20, 20, 20, 20, 20, 20, 20, 21, 22},
        {20},
        {23, 23, 23, 24, 25, 26},
        {0, 5, 9, 20, 23},
    };

    private record Pair(int a, int b) implements Comparable<Pair> {
        @Override
        public int compareTo(Pair other) {
            return a != other.a ? Integer.compare(a, other.a) : Integer.compare(b, other.b);
        }
    }

    private static long seed = 20261116L;
    private static int wrong = 0;

    private final KeyHall hall;
    private final Map<Pair, Long> counts = new HashMap<>();
    private final LinkedHashSet<Pair> coming = new LinkedHashSet<>();
    private final TreeMap<Pair, Integer> rising = new TreeMap<>();
    private final TreeMap<String, List<Integer>> lines = new TreeMap<>();
    private Set<Pair> points = new HashSet<>();
    private final TreeMap<Integer, TreeMap<Integer, Integer>> table = new TreeMap<>();
    private String tape = "";
    private final int run;
    private final int[] domain;
    private int calls = 0;

    private KeyHallModel(int run) {
        this.run = run;
        hall = new KeyHall(upTo(6) - 1);
        domain = domainOf(run / THEMES.length % 4);
    }

    public static void main(String[] args) {
        for (int run = 0; run < 800; run++) {
            new KeyHallModel(run).play(THEMES[run % THEMES.length]);
        }
        System.out.println(wrong == 0 ? "all answers are the model's" : wrong + " answers are not the model's");
        if (wrong != 0) {
            System.exit(1);
        }
    }

    // A fixed sequence, so that each run of the tests is the same.
    private static int upTo(int bound) {
        seed = seed * 6364136223846793005L + 1442695040888963407L;
        return (int) ((seed >>> 33) % bound);
    }

    private static int[] domainOf(int kind) {
        if (kind == 0) {
            return EDGES;
        }
        int[] domain = new int[kind == 1 ? 5 : kind == 2 ? 9 : 400];
        for (int i = 0; i < domain.length; i++) {
            domain[i] = i - domain.length / 2;
        }
        return domain;
    }

    private int part() {
        return domain[upTo(domain.length)];
    }

    private int value() {
        return upTo(4) == 0 ? EDGES[upTo(EDGES.length)] : upTo(100) - 50;
    }

    private void due(String call, long got, long want) {
        calls++;
        if (got != want) {
            wrong++;
            System.out.println("run " + run + ": " + call + " answered " + got + ", the model " + want);
        }
    }

    private void play(int[] theme) {
        while (calls + LONGEST_TURN + SIZES <= CALLS) {
            int kind = theme[upTo(theme.length)];
            if (kind < 5) {
                countCall(kind);
            } else if (kind < 9) {
                comingCall(kind);
            } else if (kind < 13) {
                risingCall(kind);
            } else if (kind < 20) {
                wordCall(kind);
            } else if (kind < 23) {
                pointCall(kind);
            } else {
                tableCall(kind);
            }
        }
        for (int what = 0; what < SIZES; what++) {
            due("size(" + what + ")", hall.size(what), sizeOf(what));
        }
    }

    private void countCall(int kind) {
        int a = part();
        int b = part();
        Pair pair = new Pair(a, b);
        switch (kind) {
            case 0 -> {
                int by = value();
                due("add " + pair + " " + by, hall.add(a, b, by), counts.merge(pair, (long) by, Long::sum));
            }
            case 1 -> due("count " + pair, hall.count(a, b), counts.getOrDefault(pair, NOTHING));
            case 2 -> due("drop " + pair, hall.drop(a, b), orNothing(counts.remove(pair)));
            case 3 -> {
                long sum = 0;
                for (Map.Entry<Pair, Long> e : counts.entrySet()) {
                    sum += (31L * e.getKey().a + e.getKey().b) * e.getValue();
                }
                due("total", hall.total(), sum);
            }
            default -> {
                int before = counts.size();
                counts.keySet().removeIf(p -> (p.a + p.b) % 2 == 0);
                due("sweep", hall.sweep(), before - counts.size());
            }
        }
    }

    private static long orNothing(Number n) {
        return n == null ? NOTHING : n.longValue();
    }

    private void comingCall(int kind) {
        int a = part();
        int b = part();
        Pair pair = new Pair(a, b);
        switch (kind) {
            case 5 -> due("come " + pair, hall.come(a, b) ? 1 : 0, coming.add(pair) ? 1 : 0);
            case 6 -> due("leave " + pair, hall.leave(a, b) ? 1 : 0, coming.remove(pair) ? 1 : 0);
            case 7 -> {
                int k = upTo(coming.size() + 3) - 1;
                boolean second = upTo(2) == 0;
                List<Pair> all = new ArrayList<>(coming);
                long want = k < 0 || k >= all.size() ? NOTHING : second ? all.get(k).b : all.get(k).a;
                due("comer(" + k + ", " + second + ")", hall.comer(k, second), want);
            }
            default -> {
                if (upTo(8) == 0) {
                    coming.retainAll(counts.keySet());
                    due("retain", hall.retain(), coming.size());
                }
            }
        }
    }

    private void risingCall(int kind) {
        int a = part();
        int b = part();
        Pair pair = new Pair(a, b);
        switch (kind) {
            case 9 -> {
                int v = value();
                due("rank " + pair + " " + v, hall.rank(a, b, v), orNothing(rising.put(pair, v)));
            }
            case 10 -> {
                boolean down = upTo(2) == 0;
                boolean same = upTo(2) == 0;
                Pair found = down
                    ? same ? rising.floorKey(pair) : rising.lowerKey(pair)
                    : same ? rising.ceilingKey(pair) : rising.higherKey(pair);
                long want = found == null ? NOTHING : found.a * 2147483648L + found.b;
                due("near " + pair + " " + down + " " + same, hall.near(a, b, down, same), want);
            }
            case 11 -> {
                boolean last = upTo(2) == 0;
                Map.Entry<Pair, Integer> gone = last ? rising.pollLastEntry() : rising.pollFirstEntry();
                due("poll " + last, hall.poll(last), gone == null ? NOTHING : gone.getValue());
            }
            default -> {
                Pair to = new Pair(part(), part());
                long want = to.compareTo(pair) < 0 ? -1 : rising.subMap(pair, to).size();
                due("between " + pair + " " + to, hall.between(a, b, to.a, to.b), want);
            }
        }
    }

    private void wordCall(int kind) {
        List<Integer> line = lines.get(tape);
        String before = tape;
        switch (kind) {
            case 13 -> signCall();
            case 14 -> {
                tape = "";
                due("erase of " + before, hall.erase(), before.length());
            }
            case 15 -> {
                int n = value();
                tape = "";
                if (!before.isEmpty()) {
                    lines.computeIfAbsent(before, w -> new ArrayList<>()).add(n);
                }
                due("line of " + before, hall.line(n), before.isEmpty() ? -1 : lines.get(before).size());
            }
            case 16 -> {
                int k = upTo(4) - 1;
                tape = "";
                long want = line == null || k < 0 || k >= line.size() ? NOTHING : line.get(k);
                due("read(" + k + ") of " + before, hall.read(k), want);
            }
            case 17 -> {
                String above = lines.higherKey(tape);
                tape = above == null ? "" : above;
                due("next from " + before, hall.next(), tape.length());
            }
            case 18 -> {
                int k = upTo(tape.length() + 3) - 1;
                long want = k < 0 || k >= tape.length() ? -1 : tape.charAt(k);
                due("letter(" + k + ") of " + tape, hall.letter(k), want);
            }
            default -> {
                tape = "";
                lines.remove(before);
                due("forget of " + before, hall.forget(), line == null ? -1 : line.size());
            }
        }
    }

    private void signCall() {
        int signs = upTo(6) == 0 ? LONGEST_TURN : 1 + upTo(2);
        for (int i = 0; i < signs; i++) {
            int letter = upTo(12) == 0 ? 90 + upTo(40) : 'a' + upTo(3);
            long want = letter < 97 || letter > 122 ? -1 : tape.length() == 12 ? -3 : tape.length() + 1;
            if (want > 0) {
                tape += (char) letter;
            }
            due("sign(" + letter + ")", hall.sign(letter), want);
        }
    }

    private int markedAround(Pair p) {
        int marked = 0;
        for (int i = 0; i < 9; i++) {
            if (i != 4 && points.contains(new Pair(p.a + i / 3 - 1, p.b + i % 3 - 1))) {
                marked++;
            }
        }
        return marked;
    }

    private void pointCall(int kind) {
        int x = part();
        int y = part();
        Pair point = new Pair(x, y);
        switch (kind) {
            case 20 -> {
                if (!points.remove(point)) {
                    points.add(point);
                }
                due("mark " + point, hall.mark(x, y), points.size());
            }
            case 21 -> due("around " + point, hall.around(x, y), markedAround(point));
            default -> {
                long want = -1;
                if (points.size() <= 60) {
                    points = stepped();
                    want = points.size();
                }
                due("step", hall.step(), want);
            }
        }
    }

    private Set<Pair> stepped() {
        Set<Pair> then = new HashSet<>();
        for (Pair p : points) {
            for (int i = 0; i < 9; i++) {
                Pair q = new Pair(p.a + i / 3 - 1, p.b + i % 3 - 1);
                int marked = markedAround(q);
                if (marked == 3 || marked == 2 && points.contains(q)) {
                    then.add(q);
                }
            }
        }
        return then;
    }

    private void tableCall(int kind) {
        int r = part();
        int c = part();
        TreeMap<Integer, Integer> row = table.get(r);
        switch (kind) {
            case 23 -> {
                int v = value();
                Integer before = table.computeIfAbsent(r, k -> new TreeMap<>()).put(c, v);
                due("put " + r + " " + c + " " + v, hall.put(r, c, v), orNothing(before));
            }
            case 24 -> due("get " + r + " " + c, hall.get(r, c), row == null ? NOTHING : orNothing(row.get(c)));
            case 25 -> due("end " + r, hall.end(r), row == null ? NOTHING : row.lastKey());
            case 26 -> {
                if (row != null) {
                    row.remove(c);
                    table.values().removeIf(TreeMap::isEmpty);
                }
                due("cut " + r + " " + c, hall.cut(r, c), table.size());
            }
            default -> {
                int what = upTo(9) - 1;
                due("size(" + what + ")", hall.size(what), sizeOf(what));
            }
        }
    }

    private int sizeOf(int what) {
        return switch (what) {
            case 0 -> counts.size();
            case 1 -> coming.size();
            case 2 -> rising.size();
            case 3 -> lines.size();
            case 4 -> points.size();
            case 5 -> table.size();
            case 6 -> table.values().stream().mapToInt(TreeMap::size).sum();
            default -> -1;
        };
    }
}
