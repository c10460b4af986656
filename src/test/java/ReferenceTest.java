import java.util.ArrayList;
import java.util.Arrays;
import java.util.List;
import java.util.Random;

/**
 * Runs of calls at random, each answer held beside that of a plain model, which tries every PLAN one by one in the
 * document's order: registers, then cells, then turned statements. Arguments: how many runs, the greatest number of
 * statements that may be turned at once (each doubles the work), the first seed, how many full programs.
 */
public final class ReferenceTest {
    private static int wrong = 0;

    /** What the document says, with no thought of speed. */
    private static final class Model {
        List<int[]> program = new ArrayList<>();
        boolean[] free = {true, true, false, false, false, false, false};
        int[] values = new int[7];
        int[] hand = {0, 1, 2, 3, 4, 5, 6};
        final Model[] images = new Model[2];
        final Found[] plans = new Found[6];

        static final class Found {
            int cost = Integer.MAX_VALUE;
            int turned;
            final int[] register = new int[7];
            final int[] cell = new int[7];
        }

        boolean variable(int v) {
            return v >= 0 && v < 7;
        }

        boolean statement(int s) {
            return s >= 0 && s < program.size();
        }

        void changed() {
            Arrays.fill(plans, null);
        }

        int put(int kind, int target, int left, int right) {
            if (kind < 0 || kind > 4) return -2;
            if (!variable(target) || !variable(left) || kind != 0 && !variable(right)) return -1;
            if (program.size() == 10) return -4;
            program.add(new int[] {kind, target, left, right});
            changed();
            return program.size() - 1;
        }

        int drop(int s) {
            if (!statement(s)) return -1;
            program.remove(s);
            changed();
            return program.size();
        }

        int cross(int s) {
            if (!statement(s)) return -1;
            int[] old = program.get(s);
            if (old[0] == 0) return -5;
            program.set(s, new int[] {old[0], old[1], old[3], old[2]});
            changed();
            return s;
        }

        int told(int s, int what) {
            if (!statement(s)) return -1;
            if (what < 0 || what > 3) return -2;
            return what == 3 && program.get(s)[0] == 0 ? -6 : program.get(s)[what];
        }

        int free(int distance, int on) {
            if (distance < 1 || distance > 6 || on != 0 && on != 1) return -2;
            free[distance] = on == 1;
            changed();
            int set = 0;
            for (int d = 1; d <= 6; d++) if (free[d]) set += 1 << d;
            return set;
        }

        int set(int v, int value) {
            if (!variable(v)) return -1;
            values[v] = value;
            return (int) Arrays.stream(values).filter(x -> x != 0).count();
        }

        long value(int v) {
            return variable(v) ? values[v] : -10000000001L;
        }

        int[] seen(int turned) {
            List<Integer> row = new ArrayList<>();
            for (int s = 0; s < program.size(); s++) {
                int[] it = program.get(s);
                boolean turn = (turned & 1 << s) != 0;
                if (it[0] == 0) {
                    row.add(it[2]);
                } else {
                    row.add(turn ? it[3] : it[2]);
                    row.add(turn ? it[2] : it[3]);
                }
                row.add(it[1]);
            }
            return row.stream().mapToInt(i -> i).toArray();
        }

        int used() {
            int set = 0;
            for (int v : seen(0)) set |= 1 << v;
            return set;
        }

        int sight(int i) {
            int[] row = seen(0);
            return i < 0 || i >= row.length ? -6 : row[i];
        }

        boolean far(int a, int b) {
            return a != b && !free[Math.abs(a - b)];
        }

        /** Counted no further than to the number that it must stay below to be of use. */
        int cost(int[] row, int[] register, int[] cell, int below) {
            int sum = 0;
            int last0 = -1, last1 = -1, last2 = -1;
            for (int v : row) {
                int g = register[v];
                int before = g == 0 ? last0 : g == 1 ? last1 : last2;
                if ((before < 0 || far(before, cell[v])) && ++sum >= below) break;
                if (g == 0) last0 = cell[v]; else if (g == 1) last1 = cell[v]; else last2 = cell[v];
            }
            return sum;
        }

        /** Sets of statements that may be turned, by the document's order: the first statement decides most. */
        int[] turns(int mode) {
            List<Integer> able = new ArrayList<>();
            for (int s = 0; s < program.size(); s++) {
                int[] it = program.get(s);
                if (mode == 1 && (it[0] == 1 || it[0] == 3 || it[0] == 4) && it[2] != it[3]) able.add(s);
            }
            int[] sets = new int[1 << able.size()];
            for (int k = 0; k < sets.length; k++) {
                for (int b = 0; b < able.size(); b++) {
                    if ((k >> able.size() - 1 - b & 1) != 0) sets[k] |= 1 << able.get(b);
                }
            }
            return sets;
        }

        Found find(int r, int mode) {
            int slot = (r - 1) * 2 + mode;
            if (plans[slot] == null) {
                int[] sets = turns(mode);
                int[][] rows = new int[sets.length][];
                for (int k = 0; k < sets.length; k++) rows[k] = seen(sets[k]);
                Found best = new Found();
                registers(0, r, new int[7], used(), sets, rows, best);
                plans[slot] = best;
            }
            return plans[slot];
        }

        void registers(int v, int r, int[] register, int used, int[] sets, int[][] rows, Found best) {
            if (v == 7) {
                int[] sizes = new int[3];
                for (int u = 0; u < 7; u++) if ((used >> u & 1) != 0) sizes[register[u]]++;
                cells(0, register, new int[7], sizes, new int[3], used, sets, rows, best);
                return;
            }
            for (int g = 0; g < ((used >> v & 1) != 0 ? r : 1); g++) {
                register[v] = g;
                registers(v + 1, r, register, used, sets, rows, best);
            }
        }

        void cells(int v, int[] register, int[] cell, int[] sizes, int[] full, int used, int[] sets, int[][] rows,
                Found best) {
            if (v == 7) {
                for (int k = 0; k < sets.length; k++) {
                    int cost = cost(rows[k], register, cell, best.cost);
                    if (cost < best.cost) {
                        best.cost = cost;
                        best.turned = sets[k];
                        System.arraycopy(register, 0, best.register, 0, 7);
                        System.arraycopy(cell, 0, best.cell, 0, 7);
                    }
                }
                return;
            }
            if ((used >> v & 1) == 0) {
                cells(v + 1, register, cell, sizes, full, used, sets, rows, best);
                return;
            }
            int g = register[v];
            for (int c = 0; c < sizes[g]; c++) {
                if ((full[g] >> c & 1) == 0) {
                    full[g] |= 1 << c;
                    cell[v] = c;
                    cells(v + 1, register, cell, sizes, full, used, sets, rows, best);
                    full[g] &= ~(1 << c);
                }
            }
        }

        boolean isPlan(int r, int mode) {
            return r >= 1 && r <= 3 && mode >= 0 && mode <= 1;
        }

        int plan(int r, int mode, int what) {
            if (!isPlan(r, mode) || what < 0 || what > 2) return -2;
            Found p = find(r, mode);
            if (what == 0) return p.cost;
            if (what == 2) return p.turned;
            int set = 0;
            for (int v = 0; v < 7; v++) if ((used() >> v & 1) != 0) set |= 1 << p.register[v];
            return Integer.bitCount(set);
        }

        int place(int r, int mode, int v, int what) {
            if (!variable(v) || (used() >> v & 1) == 0) return -1;
            if (!isPlan(r, mode) || what < 0 || what > 1) return -2;
            return what == 0 ? find(r, mode).register[v] : find(r, mode).cell[v];
        }

        int step(int r, int mode, int i, int what) {
            if (!isPlan(r, mode) || what < 0 || what > 2) return -2;
            Found p = find(r, mode);
            int[] row = seen(p.turned);
            if (i < 0 || i >= row.length) return -6;
            Integer before = null;
            for (int j = 0; j < i; j++) if (p.register[row[j]] == p.register[row[i]]) before = p.cell[row[j]];
            boolean load = before == null || far(before, p.cell[row[i]]);
            if (what == 0) return row[i];
            if (what == 1) return load ? 1 : 0;
            return load ? 0 : p.cell[row[i]] - before;
        }

        int run(int r, int mode) {
            if (!isPlan(r, mode)) return -2;
            for (int[] it : program) {
                int left = values[it[2]];
                int right = it[0] == 0 ? 0 : values[it[3]];
                values[it[1]] = new int[] {left, left + right, left - right, left * right, Math.min(left, right)}[it[0]];
            }
            return find(r, mode).cost;
        }

        int weight(int one, int other) {
            if (!variable(one) || !variable(other)) return -1;
            int[] row = seen(0);
            int sum = 0;
            for (int i = 1; i < row.length && one != other; i++) {
                if (row[i - 1] == one && row[i] == other || row[i - 1] == other && row[i] == one) sum++;
            }
            return sum;
        }

        /** Pairs as one * 7 + other, one being the lesser. */
        List<Integer> pairs() {
            List<Integer> all = new ArrayList<>();
            for (int a = 0; a < 7; a++) for (int b = a + 1; b < 7; b++) if (weight(a, b) > 0) all.add(a * 7 + b);
            all.sort((p, q) -> weight(q / 7, q % 7) - weight(p / 7, p % 7));
            return all;
        }

        boolean leads(int a, int b, List<Integer> takenPairs, int without) {
            if (a == b) return true;
            for (int p : takenPairs) {
                if (p == without) continue;
                List<Integer> rest = new ArrayList<>(takenPairs);
                rest.remove((Integer) p);
                if (p / 7 == a && leads(p % 7, b, rest, -1) || p % 7 == a && leads(p / 7, b, rest, -1)) return true;
            }
            return false;
        }

        List<Integer> greedy() {
            List<Integer> takenPairs = new ArrayList<>();
            for (int p : pairs()) {
                int a = p / 7, b = p % 7;
                long atA = takenPairs.stream().filter(q -> q / 7 == a || q % 7 == a).count();
                long atB = takenPairs.stream().filter(q -> q / 7 == b || q % 7 == b).count();
                if (atA < 2 && atB < 2 && !leads(a, b, takenPairs, -1)) takenPairs.add(p);
            }
            return takenPairs;
        }

        int taken(int one, int other) {
            if (!variable(one) || !variable(other)) return -1;
            return greedy().contains(Math.min(one, other) * 7 + Math.max(one, other)) ? 1 : 0;
        }

        int exchange(int one, int other) {
            if (!variable(one) || !variable(other)) return -1;
            int cell = hand[one];
            hand[one] = hand[other];
            hand[other] = cell;
            return hand[one];
        }

        int hand(int mode) {
            if (mode < 0 || mode > 1) return -2;
            int least = Integer.MAX_VALUE;
            for (int turned : turns(mode)) least = Math.min(least, cost(seen(turned), new int[7], hand, least));
            return least;
        }

        int count(int what) {
            if (what >= 10 && what <= 16) return hand[what - 10];
            int first = program.isEmpty() ? 0 : 1;
            switch (what) {
                case 0: return program.size();
                case 1: return seen(0).length;
                case 2: return used();
                case 3: {
                    List<Integer> takenPairs = greedy();
                    return first + pairs().stream().filter(p -> !takenPairs.contains(p))
                            .mapToInt(p -> weight(p / 7, p % 7)).sum();
                }
                case 4: return greedy().size();
                case 5: return first + pairs().stream().skip(Math.max(0, Integer.bitCount(used()) - 1))
                        .mapToInt(p -> weight(p / 7, p % 7)).sum();
                case 6: return (images[0] != null ? 1 : 0) + (images[1] != null ? 2 : 0);
                default: return -2;
            }
        }

        void take(Model from) {
            program = new ArrayList<>(from.program);
            free = from.free.clone();
            values = from.values.clone();
            hand = from.hand.clone();
            changed();
        }

        int image(int k) {
            if (k < 0 || k > 1) return -2;
            images[k] = new Model();
            images[k].take(this);
            return 1;
        }

        int restore(int k) {
            if (k < 0 || k > 1) return -2;
            if (images[k] == null) return -3;
            take(images[k]);
            return 1;
        }
    }

    /** One object and its model, called with the same arguments. */
    private static final class Pair {
        final StepRegisters x = new StepRegisters();
        final Model m = new Model();
        final Random random;
        final int mostTurns;
        final StringBuilder log = new StringBuilder();

        Pair(long seed, int mostTurns) {
            random = new Random(seed);
            this.mostTurns = mostTurns;
        }

        void due(String call, long got, long want) {
            log.append(call).append(" = ").append(want).append("; ");
            if (got != want) {
                wrong++;
                System.out.println(log + " .. answered " + got);
            }
        }

        /** Now and then a number just outside, or as far outside as can be. */
        int within(int low, int high) {
            int[] outside = {low - 1, high + 1, Integer.MIN_VALUE, Integer.MAX_VALUE};
            return random.nextInt(40) == 0 ? outside[random.nextInt(4)] : low + random.nextInt(high - low + 1);
        }

        void put(int variables) {
            int kind = within(0, 4);
            boolean many = m.turns(1).length >= 1 << mostTurns;
            if (many && (kind == 1 || kind == 3 || kind == 4)) kind = random.nextInt(2) * 2;
            int t = within(0, variables - 1), l = within(0, variables - 1), r = within(0, variables - 1);
            due("put(" + kind + ", " + t + ", " + l + ", " + r + ")", x.put(kind, t, l, r), m.put(kind, t, l, r));
        }

        void change(int variables) {
            int a = within(0, 9), b = within(0, 6), c = within(0, 6), k = within(0, 1), d = within(1, 6);
            switch (random.nextInt(9)) {
                case 0: due("drop(" + a + ")", x.drop(a), m.drop(a)); break;
                case 1: due("cross(" + a + ")", x.cross(a), m.cross(a)); break;
                case 2: due("free(" + d + ", " + k + ")", x.free(d, k), m.free(d, k)); break;
                case 3: {
                    int value = random.nextInt(4) == 0 ? random.nextInt() : random.nextInt(7) - 3;
                    due("set(" + b + ", " + value + ")", x.set(b, value), m.set(b, value));
                    break;
                }
                case 4: due("exchange(" + b + ", " + c + ")", x.exchange(b, c), m.exchange(b, c)); break;
                case 5: due("image(" + k + ")", x.image(k), m.image(k)); break;
                case 6: due("restore(" + k + ")", x.restore(k), m.restore(k)); break;
                default: put(variables);
            }
        }

        void lookAtProgram() {
            for (int v = -1; v <= 7; v++) due("value(" + v + ")", x.value(v), m.value(v));
            for (int i = -1; i <= 30; i++) due("sight(" + i + ")", x.sight(i), m.sight(i));
            for (int s = -1; s <= 10; s++) {
                for (int what = -1; what <= 4; what++) {
                    due("told(" + s + ", " + what + ")", x.told(s, what), m.told(s, what));
                }
            }
            for (int what = -1; what <= 17; what++) due("count(" + what + ")", x.count(what), m.count(what));
            for (int mode = -1; mode <= 2; mode++) due("hand(" + mode + ")", x.hand(mode), m.hand(mode));
            for (int a = -1; a <= 7; a++) {
                for (int b = -1; b <= 7; b++) {
                    due("weight(" + a + ", " + b + ")", x.weight(a, b), m.weight(a, b));
                    due("taken(" + a + ", " + b + ")", x.taken(a, b), m.taken(a, b));
                }
            }
        }

        void lookAtPlan(int r, int mode) {
            String by = "(" + r + ", " + mode + ", ";
            for (int what = -1; what <= 3; what++) {
                due("plan" + by + what + ")", x.plan(r, mode, what), m.plan(r, mode, what));
                for (int v = -1; v <= 7; v++) {
                    due("place" + by + v + ", " + what + ")", x.place(r, mode, v, what), m.place(r, mode, v, what));
                }
                for (int i = -1; i <= 30; i++) {
                    due("step" + by + i + ", " + what + ")", x.step(r, mode, i, what), m.step(r, mode, i, what));
                }
            }
            due("run" + by + ")", x.run(r, mode), m.run(r, mode));
        }
    }

    private static void oneRun(long seed, int mostTurns) {
        Pair pair = new Pair(seed, mostTurns);
        Random random = pair.random;
        int variables = 2 + random.nextInt(6);
        // Where all seven are used a plan for three registers is dear to try out, so few of these are looked at.
        int looks = variables < 6 ? 8 : 2;
        for (int d = 1; d <= 6; d++) {
            if (random.nextInt(3) == 0) {
                int on = random.nextInt(2);
                pair.due("free(" + d + ", " + on + ")", pair.x.free(d, on), pair.m.free(d, on));
            }
        }
        int start = random.nextInt(11);
        for (int s = 0; s < start; s++) pair.put(variables);
        for (int look = 0; look < looks && wrong == 0; look++) {
            pair.lookAtProgram();
            int r = random.nextInt(20) == 0 ? random.nextInt(2) * 4 : 1 + random.nextInt(3);
            int mode = random.nextInt(20) == 0 ? 2 : random.nextInt(2);
            pair.lookAtPlan(r, mode);
            if (random.nextBoolean()) pair.lookAtPlan(1 + random.nextInt(2), mode & 1);
            int changes = 1 + random.nextInt(5);
            for (int c = 0; c < changes; c++) pair.change(variables);
        }
    }

    /** All 7 variables in 10 statements, each of which may be turned: the most that there can be. */
    private static void fullRun(long seed) {
        Pair pair = new Pair(seed, 10);
        Random random = pair.random;
        for (int d = 1; d <= 6; d++) {
            int on = random.nextInt(3) == 0 ? 1 : 0;
            pair.due("free(" + d + ", " + on + ")", pair.x.free(d, on), pair.m.free(d, on));
        }
        int[] kinds = {1, 3, 4};
        for (int s = 0; s < 10; s++) {
            int kind = kinds[random.nextInt(3)];
            int l = s % 7, r = (l + 1 + random.nextInt(6)) % 7, t = random.nextInt(7);
            pair.due("put(" + kind + ", " + t + ", " + l + ", " + r + ")", pair.x.put(kind, t, l, r),
                    pair.m.put(kind, t, l, r));
        }
        pair.lookAtProgram();
        for (int r = 1; r <= 3; r++) {
            pair.lookAtPlan(r, 1);
            pair.lookAtPlan(r, 0);
        }
    }

    public static void main(String[] args) {
        int runs = args.length > 0 ? Integer.parseInt(args[0]) : 150;
        int mostTurns = args.length > 1 ? Integer.parseInt(args[1]) : 4;
        long seed = args.length > 2 ? Long.parseLong(args[2]) : 1;
        for (int k = 0; k < runs && wrong == 0; k++) oneRun(seed + k, mostTurns);
        int fullRuns = args.length > 3 ? Integer.parseInt(args[3]) : 2;
        for (int k = 0; k < fullRuns && wrong == 0; k++) fullRun(seed + k);
        System.out.println(wrong == 0 ? "all answers are as the model's" : wrong + " answers are not as the model's");
        if (wrong != 0) System.exit(1);
    }
}
