import java.util.ArrayList;
import java.util.List;
import java.util.Map;
import java.util.TreeMap;

// Long runs of calls against a second allocator, written word for word after the document.
public final class GroupAllocatorModel {
    private static final int BAD = -1;
    private static final int NONE = -2;
    // The document promises nothing after an object's 512th call.
    private static final int CALLS = 512;
    private static final String[] NAMES = {"allocate", "claim", "release", "grow", "halve",
        "extentOf", "freeBlocks", "largestFree", "freeRuns", "extents"};

    private static int wrong = 0;

    // Holds extents alone and asks each time which blocks they cover.
    private static final class Model {
        final int groups;
        final TreeMap<Integer, Integer> orders = new TreeMap<>();

        Model(int groups) {
            this.groups = Math.min(4, Math.max(1, groups));
        }

        int answer(int method, int a, int b) {
            switch (method) {
                case 0: return allocate(a, b);
                case 1: return claim(a, b);
                case 2: return orders.containsKey(a) ? orders.remove(a) : BAD;
                case 3: return grow(a);
                case 4: return halve(a);
                case 5: return extentOf(a);
                case 6: return isGroup(a) ? freeRunsOf(0, a).size() : BAD;
                case 7: return largestFree(a);
                case 8: return freeRuns(a);
                default: return orders.size();
            }
        }

        boolean isBlock(int block) {
            return block >= 0 && block <= 32 * groups - 1;
        }

        boolean isGroup(int group) {
            return group >= 0 && group <= groups - 1;
        }

        int extentOf(int block) {
            if (!isBlock(block)) {
                return BAD;
            }
            Map.Entry<Integer, Integer> below = orders.floorEntry(block);
            boolean covers = below != null && block - below.getKey() < 1 << below.getValue();
            return covers ? below.getKey() : NONE;
        }

        boolean isFree(int order, int start) {
            for (int i = 0; i < 1 << order; i++) {
                if (extentOf(start + i) != NONE) {
                    return false;
                }
            }
            return true;
        }

        List<Integer> freeRunsOf(int order, int group) {
            List<Integer> starts = new ArrayList<>();
            for (int block = 32 * group; block <= 32 * group + 31; block++) {
                if (block % (1 << order) == 0 && isFree(order, block)) {
                    starts.add(block);
                }
            }
            return starts;
        }

        int allocate(int order, int goal) {
            if (order < 0 || order > 5 || !isBlock(goal)) {
                return BAD;
            }
            List<Integer> candidates = new ArrayList<>();
            List<Integer> home = freeRunsOf(order, goal / 32);
            home.stream().filter(start -> start >= goal).forEach(candidates::add);
            home.stream().filter(start -> start < goal).forEach(candidates::add);
            int group = goal / 32;
            for (int i = 1; i < groups; i++) {
                group = group == groups - 1 ? 0 : group + 1;
                candidates.addAll(freeRunsOf(order, group));
            }
            if (candidates.isEmpty()) {
                return NONE;
            }
            orders.put(candidates.get(0), order);
            return candidates.get(0);
        }

        int claim(int order, int start) {
            if (order < 0 || order > 5 || !isBlock(start) || start % (1 << order) != 0) {
                return BAD;
            }
            if (!isFree(order, start)) {
                return NONE;
            }
            orders.put(start, order);
            return start;
        }

        int grow(int start) {
            if (!orders.containsKey(start)) {
                return BAD;
            }
            int order = orders.get(start);
            if (order == 5 || start % (2 << order) != 0 || !isFree(order, start + (1 << order))) {
                return NONE;
            }
            orders.put(start, order + 1);
            return order + 1;
        }

        int halve(int start) {
            if (!orders.containsKey(start)) {
                return BAD;
            }
            int order = orders.get(start);
            if (order == 0) {
                return NONE;
            }
            orders.put(start, order - 1);
            return order - 1;
        }

        int largestFree(int group) {
            if (!isGroup(group)) {
                return BAD;
            }
            int largest = NONE;
            for (int order = 0; order <= 5; order++) {
                largest = freeRunsOf(order, group).isEmpty() ? largest : order;
            }
            return largest;
        }

        int freeRuns(int order) {
            if (order < 0 || order > 5) {
                return BAD;
            }
            int count = 0;
            for (int group = 0; group < groups; group++) {
                count += freeRunsOf(order, group).size();
            }
            return count;
        }
    }

    // Both allocators side by side, with the count of calls that the document bounds.
    private static final class Pair {
        final String title;
        final GroupAllocator real;
        final Model model;
        int calls = 0;

        Pair(String title, int groups) {
            this.title = title;
            real = new GroupAllocator(groups);
            model = new Model(groups);
        }

        void call(int method, int a, int b) {
            calls++;
            int got = answerOf(real, method, a, b);
            int want = model.answer(method, a, b);
            if (got != want) {
                wrong++;
                System.out.println(title + ", call " + calls + ": " + NAMES[method] + "(" + a + ", " + b
                    + ") answered " + got + ", due is " + want);
            }
        }

        // 128 + 4 + 4 + 6 + 1 calls at the most.
        void compareState() {
            for (int block = 0; block < 32 * model.groups; block++) {
                call(5, block, 0);
            }
            for (int group = 0; group < model.groups; group++) {
                call(6, group, 0);
                call(7, group, 0);
            }
            for (int order = 0; order <= 5; order++) {
                call(8, order, 0);
            }
            call(9, 0, 0);
        }
    }

    private static int answerOf(GroupAllocator x, int method, int a, int b) {
        switch (method) {
            case 0: return x.allocate(a, b);
            case 1: return x.claim(a, b);
            case 2: return x.release(a);
            case 3: return x.grow(a);
            case 4: return x.halve(a);
            case 5: return x.extentOf(a);
            case 6: return x.freeBlocks(a);
            case 7: return x.largestFree(a);
            case 8: return x.freeRuns(a);
            default: return x.extents();
        }
    }

    private static long state = 1;

    // A fixed sequence, so that every run of this test makes the same calls.
    private static int next(int bound) {
        state = state * 6364136223846793005L + 1442695040888963407L;
        return (int) ((state >>> 33) % bound);
    }

    private static int anyOrder() {
        return next(20) == 0 ? next(2) * 7 - 1 : next(6);
    }

    private static int anyBlock(Pair pair) {
        int blocks = 32 * pair.model.groups;
        return next(20) == 0 ? next(blocks + 70) - 35 : next(blocks);
    }

    private static int anyName(Pair pair) {
        if (pair.model.orders.isEmpty() || next(8) == 0) {
            return anyBlock(pair);
        }
        List<Integer> names = new ArrayList<>(pair.model.orders.keySet());
        return names.get(next(names.size()));
    }

    private static void callAny(Pair pair, int releaseWeight) {
        int kind = next(12 + releaseWeight);
        int order = anyOrder();
        if (kind < 4) {
            pair.call(0, order, anyBlock(pair));
        } else if (kind < 6) {
            int block = anyBlock(pair);
            // Most claims are aligned: the others only answer BAD.
            boolean align = next(5) != 0 && order >= 0 && order <= 5;
            pair.call(1, order, align ? block & -(1 << order) : block);
        } else if (kind < 8) {
            pair.call(3, anyName(pair), 0);
        } else if (kind < 10) {
            pair.call(4, anyName(pair), 0);
        } else if (kind < 11) {
            pair.call(5 + 2 * next(2), next(2) == 0 ? anyBlock(pair) : next(6) - 1, 0);
        } else if (kind < 12) {
            int query = 6 + next(4);
            pair.call(query, next(8) - 1, 0);
        } else {
            pair.call(2, anyName(pair), 0);
        }
    }

    private static void longRuns() {
        for (int run = 0; run < 800; run++) {
            int groups = run % 4 + 1;
            Pair pair = new Pair("run " + run + " of " + groups + " groups", groups);
            int releaseWeight = 1 + run / 4 % 5;
            while (pair.calls < CALLS - 143) {
                callAny(pair, releaseWeight);
            }
            pair.compareState();
        }
    }

    private static void everyFirstAllocateAndClaim() {
        for (int groups = 1; groups <= 4; groups++) {
            for (int order = -1; order <= 6; order++) {
                for (int block = -1; block <= 32 * groups; block++) {
                    for (int method = 0; method <= 1; method++) {
                        Pair pair = new Pair("first call of " + groups + " groups", groups);
                        pair.call(method, order, block);
                        pair.compareState();
                    }
                }
            }
        }
    }

    // A full disk with one hole: every goal must find the hole, whatever group it lies in.
    private static void everyGoalToOneHole() {
        for (int groups = 1; groups <= 4; groups++) {
            for (int hole = 0; hole < 32 * groups; hole += 4) {
                Pair pair = new Pair("hole " + hole + " of " + groups + " groups", groups);
                for (int start = 0; start < 32 * groups; start += 4) {
                    pair.call(1, 2, start);
                }
                for (int goal = 0; goal < 32 * groups; goal++) {
                    pair.call(2, hole, 0);
                    pair.call(0, 2, goal);
                }
            }
        }
    }

    public static void main(String[] args) {
        everyFirstAllocateAndClaim();
        everyGoalToOneHole();
        longRuns();
        System.out.println(wrong == 0 ? "all answers are as due" : wrong + " answers are not as due");
        if (wrong != 0) {
            System.exit(1);
        }
    }
}
