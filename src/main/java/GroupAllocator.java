public final class GroupAllocator {
    public static final int BAD = -1;
    public static final int NONE = -2;

    private static final int MAX_GROUPS = 4;
    private static final int GROUP_BLOCKS = 32;
    private static final int MAX_BLOCKS = 128;
    private static final int MAX_ORDER = 5;

    // An extent's name plus one for each of its blocks, so that a new array's zeros already mean free.
    private final int[] owner = new int[MAX_BLOCKS];
    // Meaningful only at the first block of an extent; elsewhere a stale order may stand.
    private final int[] orderAt = new int[MAX_BLOCKS];
    private final int groupCount;

    public GroupAllocator(int groups) {
        groupCount = groups < 1 ? 1 : (groups > MAX_GROUPS ? MAX_GROUPS : groups);
    }

    public int allocate(int order, int goal) {
        if (!isOrder(order) || !isBlock(goal)) {
            return BAD;
        }
        int start = findRunNear(order, goal);
        if (start != NONE) {
            makeExtent(order, start);
        }
        return start;
    }

    public int claim(int order, int start) {
        if (!isOrder(order) || !isBlock(start) || start % (1 << order) != 0) {
            return BAD;
        }
        if (!areFree(start, 1 << order)) {
            return NONE;
        }
        makeExtent(order, start);
        return start;
    }

    public int release(int start) {
        if (!isExtent(start)) {
            return BAD;
        }
        int order = orderAt[start];
        setOwner(start, 1 << order, 0);
        return order;
    }

    public int grow(int start) {
        if (!isExtent(start)) {
            return BAD;
        }
        int order = orderAt[start];
        int size = 1 << order;
        // The order is looked at first: past order 5 the other half could lie outside the disk.
        if (order == MAX_ORDER || start % (2 * size) != 0 || !areFree(start + size, size)) {
            return NONE;
        }
        makeExtent(order + 1, start);
        return order + 1;
    }

    public int halve(int start) {
        if (!isExtent(start)) {
            return BAD;
        }
        int order = orderAt[start];
        if (order == 0) {
            return NONE;
        }
        int half = 1 << (order - 1);
        setOwner(start + half, half, 0);
        orderAt[start] = order - 1;
        return order - 1;
    }

    public int extentOf(int block) {
        if (!isBlock(block)) {
            return BAD;
        }
        return owner[block] == 0 ? NONE : owner[block] - 1;
    }

    public int freeBlocks(int group) {
        return isGroup(group) ? countFreeRuns(0, group) : BAD;
    }

    public int largestFree(int group) {
        if (!isGroup(group)) {
            return BAD;
        }
        for (int order = MAX_ORDER; order >= 0; order--) {
            if (findRunInGroup(order, group) != NONE) {
                return order;
            }
        }
        return NONE;
    }

    public int freeRuns(int order) {
        if (!isOrder(order)) {
            return BAD;
        }
        int count = 0;
        for (int group = 0; group < groupCount; group++) {
            count += countFreeRuns(order, group);
        }
        return count;
    }

    public int extents() {
        int count = 0;
        for (int block = 0; block < MAX_BLOCKS; block++) {
            if (isExtent(block)) {
                count++;
            }
        }
        return count;
    }

    private boolean isOrder(int order) {
        return order >= 0 && order <= MAX_ORDER;
    }

    private boolean isGroup(int group) {
        return group >= 0 && group < groupCount;
    }

    private boolean isBlock(int block) {
        return block >= 0 && block < groupCount * GROUP_BLOCKS;
    }

    private boolean isExtent(int start) {
        return isBlock(start) && owner[start] == start + 1;
    }

    private boolean areFree(int start, int size) {
        for (int block = start; block < start + size; block++) {
            if (owner[block] != 0) {
                return false;
            }
        }
        return true;
    }

    private void makeExtent(int order, int start) {
        setOwner(start, 1 << order, start + 1);
        orderAt[start] = order;
    }

    private void setOwner(int start, int size, int mark) {
        for (int block = start; block < start + size; block++) {
            owner[block] = mark;
        }
    }

    private int findRunNear(int order, int goal) {
        int size = 1 << order;
        int home = goal / GROUP_BLOCKS;
        int homeStart = home * GROUP_BLOCKS;
        int firstFromGoal = (goal + size - 1) / size * size;
        int start = findRunBetween(order, firstFromGoal, homeStart + GROUP_BLOCKS);
        if (start == NONE) {
            start = findRunBetween(order, homeStart, firstFromGoal);
        }
        for (int step = 1; step < groupCount && start == NONE; step++) {
            start = findRunInGroup(order, (home + step) % groupCount);
        }
        return start;
    }

    private int findRunInGroup(int order, int group) {
        return findRunBetween(order, group * GROUP_BLOCKS, (group + 1) * GROUP_BLOCKS);
    }

    // Both bounds are multiples of the run's size, so that no run reaches past the end.
    private int findRunBetween(int order, int from, int end) {
        int size = 1 << order;
        for (int start = from; start < end; start += size) {
            if (areFree(start, size)) {
                return start;
            }
        }
        return NONE;
    }

    private int countFreeRuns(int order, int group) {
        int size = 1 << order;
        int end = (group + 1) * GROUP_BLOCKS;
        int count = 0;
        for (int start = group * GROUP_BLOCKS; start < end; start += size) {
            if (areFree(start, size)) {
                count++;
            }
        }
        return count;
    }
}
