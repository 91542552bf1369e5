// Each promise of the document by hand-written runs: ordinary inputs, the named edges, wrong inputs.
public final class GroupAllocatorPromises {
    private static final int BAD = -1;
    private static final int NONE = -2;
    private static final int[] WRONG_ORDERS = {-1, 6, 31, 32, 33, 64, Integer.MIN_VALUE, Integer.MAX_VALUE};

    private static int wrong = 0;
    private static int promise = 0;

    public static void main(String[] args) {
        promise = 1;
        groupsAreClamped();
        allBlocksOfANewObjectAreFree();
        objectsShareNothing();
        promise = 2;
        allocateRefusesWrongInputs();
        allocateStartsAtTheGoal();
        allocateGoesBackInTheGoalsGroup();
        allocateGoesRoundTheGroups();
        allocateFindsNone();
        allocateSkipsRunsThatAreFreeInPart();
        promise = 3;
        claimRefusesWrongInputs();
        claimTakesExactlyTheRun();
        claimFindsABlockTaken();
        promise = 4;
        releaseRefusesWrongNames();
        releaseFreesAllBlocks();
        promise = 5;
        growRefusesWrongNames();
        growDoublesUpToAGroup();
        growNeedsTheLowerHalf();
        growNeedsTheOtherHalfFree();
        promise = 6;
        halveRefusesWrongNames();
        halveKeepsTheLowerHalf();
        promise = 7;
        extentOfNamesEachBlock();
        promise = 8;
        freeBlocksCountsOneGroup();
        promise = 9;
        largestFreeLooksAtAlignedRuns();
        promise = 10;
        freeRunsCountsAlignedRuns();
        promise = 11;
        extentsAreCounted();
        System.out.println(wrong == 0 ? "all answers are as due" : wrong + " answers are not as due");
        if (wrong != 0) {
            System.exit(1);
        }
    }

    private static void due(String call, int got, int want) {
        if (got != want) {
            wrong++;
            System.out.println("promise " + promise + ": " + call + " answered " + got + ", due is " + want);
        }
    }

    // A refused call must leave the object as it was; this looks at a new object that saw only refused calls.
    private static void dueUntouched(GroupAllocator x, int groups) {
        due("extents() after refused calls", x.extents(), 0);
        due("freeRuns(5) after refused calls", x.freeRuns(5), groups);
    }

    private static void groupsAreClamped() {
        int[] given = {Integer.MIN_VALUE, -1, 0, 1, 2, 3, 4, 5, 100, Integer.MAX_VALUE};
        int[] kept = {1, 1, 1, 1, 2, 3, 4, 4, 4, 4};
        for (int i = 0; i < given.length; i++) {
            GroupAllocator x = new GroupAllocator(given[i]);
            String made = "new(" + given[i] + "): ";
            due(made + "freeRuns(5)", x.freeRuns(5), kept[i]);
            due(made + "freeRuns(0)", x.freeRuns(0), 32 * kept[i]);
            due(made + "freeBlocks of the last group", x.freeBlocks(kept[i] - 1), 32);
            due(made + "freeBlocks past the last group", x.freeBlocks(kept[i]), BAD);
            due(made + "extentOf the last block", x.extentOf(32 * kept[i] - 1), NONE);
            due(made + "extentOf past the last block", x.extentOf(32 * kept[i]), BAD);
        }
    }

    private static void allBlocksOfANewObjectAreFree() {
        for (int groups = 1; groups <= 4; groups++) {
            GroupAllocator x = new GroupAllocator(groups);
            due("extents()", x.extents(), 0);
            for (int block = 0; block < 32 * groups; block++) {
                due("extentOf(" + block + ")", x.extentOf(block), NONE);
            }
            for (int block = 0; block < 32 * groups; block++) {
                due("release(" + block + ")", x.release(block), BAD);
            }
        }
    }

    private static void objectsShareNothing() {
        GroupAllocator first = new GroupAllocator(1);
        first.claim(5, 0);
        GroupAllocator second = new GroupAllocator(4);
        due("freeBlocks(0) of a second object", second.freeBlocks(0), 32);
        second.claim(0, 100);
        due("extents() of the first object", first.extents(), 1);
        due("extentOf(100) of the first object", first.extentOf(100), BAD);
    }

    private static void allocateRefusesWrongInputs() {
        GroupAllocator x = new GroupAllocator(2);
        for (int order : WRONG_ORDERS) {
            due("allocate(" + order + ", 0)", x.allocate(order, 0), BAD);
        }
        int[] goals = {-1, -32, 64, 65, 127, 128, Integer.MIN_VALUE, Integer.MAX_VALUE};
        for (int goal : goals) {
            due("allocate(0, " + goal + ")", x.allocate(0, goal), BAD);
            due("allocate(5, " + goal + ")", x.allocate(5, goal), BAD);
        }
        dueUntouched(x, 2);
        x.claim(5, 0);
        x.claim(5, 32);
        due("allocate(6, 0) on a full disk", x.allocate(6, 0), BAD);
        due("allocate(0, 64) on a full disk", x.allocate(0, 64), BAD);
    }

    private static void allocateStartsAtTheGoal() {
        GroupAllocator x = new GroupAllocator(2);
        due("allocate(0, 0)", x.allocate(0, 0), 0);
        due("allocate(0, 63)", x.allocate(0, 63), 63);
        due("allocate(3, 8)", x.allocate(3, 8), 8);
        due("allocate(3, 17)", x.allocate(3, 17), 24);
        due("allocate(1, 8)", x.allocate(1, 8), 16);
        due("allocate(2, 33)", x.allocate(2, 33), 36);
        due("allocate(2, 32)", x.allocate(2, 32), 32);
        due("extentOf(39)", x.extentOf(39), 36);
        due("extentOf(40)", x.extentOf(40), NONE);
        due("release(36)", x.release(36), 2);
        due("extents()", x.extents(), 6);
    }

    private static void allocateGoesBackInTheGoalsGroup() {
        GroupAllocator x = new GroupAllocator(3);
        due("allocate(3, 57)", x.allocate(3, 57), 32);
        due("allocate(3, 57)", x.allocate(3, 57), 40);
        due("allocate(5, 65)", x.allocate(5, 65), 64);
        due("allocate(4, 49)", x.allocate(4, 49), 48);
        due("allocate(4, 48)", x.allocate(4, 48), 0);
        GroupAllocator y = new GroupAllocator(1);
        due("allocate(5, 31)", y.allocate(5, 31), 0);
        due("allocate(5, 0)", y.allocate(5, 0), NONE);
    }

    private static void allocateGoesRoundTheGroups() {
        GroupAllocator x = new GroupAllocator(4);
        due("allocate(5, 64)", x.allocate(5, 64), 64);
        due("allocate(2, 95)", x.allocate(2, 95), 96);
        due("allocate(5, 70)", x.allocate(5, 70), 0);
        due("allocate(5, 70)", x.allocate(5, 70), 32);
        due("allocate(5, 70)", x.allocate(5, 70), NONE);
        due("allocate(0, 31)", x.allocate(0, 31), 100);
        GroupAllocator y = new GroupAllocator(3);
        y.claim(5, 64);
        due("allocate(0, 95) from the last group", y.allocate(0, 95), 0);
        y.claim(5, 32);
        due("allocate(4, 40) past a full group", y.allocate(4, 40), 16);
    }

    private static void allocateFindsNone() {
        GroupAllocator x = new GroupAllocator(2);
        x.claim(0, 15);
        x.claim(0, 48);
        due("allocate(5, 0)", x.allocate(5, 0), NONE);
        due("extents()", x.extents(), 2);
        due("freeRuns(0)", x.freeRuns(0), 62);
        due("allocate(4, 0)", x.allocate(4, 0), 16);
        due("allocate(4, 0)", x.allocate(4, 0), 32);
        due("allocate(4, 0)", x.allocate(4, 0), NONE);
    }

    private static void allocateSkipsRunsThatAreFreeInPart() {
        GroupAllocator x = new GroupAllocator(1);
        x.claim(0, 3);
        x.claim(0, 4);
        x.claim(0, 10);
        due("allocate(2, 0)", x.allocate(2, 0), 12);
        due("allocate(1, 0)", x.allocate(1, 0), 0);
        due("allocate(1, 2)", x.allocate(1, 2), 6);
        due("allocate(0, 3)", x.allocate(0, 3), 5);
        due("extentOf(3)", x.extentOf(3), 3);
    }

    private static void claimRefusesWrongInputs() {
        GroupAllocator x = new GroupAllocator(2);
        for (int order : WRONG_ORDERS) {
            due("claim(" + order + ", 0)", x.claim(order, 0), BAD);
        }
        int[] starts = {-1, -32, 64, 96, 128, Integer.MIN_VALUE, Integer.MAX_VALUE};
        for (int start : starts) {
            due("claim(0, " + start + ")", x.claim(0, start), BAD);
            due("claim(5, " + start + ")", x.claim(5, start), BAD);
        }
        for (int order = 1; order <= 5; order++) {
            due("claim(" + order + ", 1)", x.claim(order, 1), BAD);
            due("claim(" + order + ", half)", x.claim(order, 1 << (order - 1)), BAD);
            due("claim(" + order + ", 63)", x.claim(order, 63), BAD);
        }
        dueUntouched(x, 2);
        x.claim(5, 0);
        due("claim(1, 1) in a taken group", x.claim(1, 1), BAD);
        due("claim(6, 0) in a taken group", x.claim(6, 0), BAD);
    }

    private static void claimTakesExactlyTheRun() {
        for (int order = 0; order <= 5; order++) {
            int size = 1 << order;
            for (int start = 0; start < 128; start += size) {
                GroupAllocator x = new GroupAllocator(4);
                String call = "claim(" + order + ", " + start + ")";
                due(call, x.claim(order, start), start);
                for (int block = 0; block < 128; block++) {
                    boolean inside = block >= start && block < start + size;
                    due(call + ", extentOf(" + block + ")", x.extentOf(block), inside ? start : NONE);
                }
                due(call + ", release", x.release(start), order);
            }
        }
    }

    private static void claimFindsABlockTaken() {
        for (int taken = 8; taken < 16; taken++) {
            GroupAllocator x = new GroupAllocator(1);
            x.claim(0, taken);
            due("claim(3, 8) with " + taken + " taken", x.claim(3, 8), NONE);
            due("extents() after it", x.extents(), 1);
            due("freeBlocks(0) after it", x.freeBlocks(0), 31);
            due("claim(3, 0)", x.claim(3, 0), 0);
            due("claim(3, 16)", x.claim(3, 16), 16);
        }
        GroupAllocator x = new GroupAllocator(1);
        x.claim(2, 4);
        due("claim(2, 4) again", x.claim(2, 4), NONE);
        due("claim(0, 6) inside an extent", x.claim(0, 6), NONE);
        due("release(4)", x.release(4), 2);
        due("claim(0, 6)", x.claim(0, 6), 6);
    }

    private static void releaseRefusesWrongNames() {
        GroupAllocator x = new GroupAllocator(2);
        x.claim(2, 4);
        int[] starts = {0, 3, 5, 6, 7, 8, 63, 64, 128, -1, -2, Integer.MIN_VALUE, Integer.MAX_VALUE};
        for (int start : starts) {
            due("release(" + start + ")", x.release(start), BAD);
        }
        due("freeBlocks(0)", x.freeBlocks(0), 28);
        due("release(4)", x.release(4), 2);
        due("release(4) again", x.release(4), BAD);
    }

    private static void releaseFreesAllBlocks() {
        GroupAllocator x = new GroupAllocator(2);
        for (int order = 0; order <= 5; order++) {
            x.claim(order, 32);
            due("release(32)", x.release(32), order);
            due("freeRuns(5) after release", x.freeRuns(5), 2);
            due("extents() after release", x.extents(), 0);
        }
        x.claim(3, 8);
        x.claim(3, 16);
        x.claim(3, 24);
        due("release(16)", x.release(16), 3);
        due("extentOf(15)", x.extentOf(15), 8);
        due("extentOf(16)", x.extentOf(16), NONE);
        due("extentOf(23)", x.extentOf(23), NONE);
        due("extentOf(24)", x.extentOf(24), 24);
        x.claim(0, 16);
        due("release(16) of the new order", x.release(16), 0);
    }

    private static void growRefusesWrongNames() {
        GroupAllocator x = new GroupAllocator(2);
        x.claim(1, 4);
        int[] starts = {0, 5, 6, 63, 64, 128, -1, -2, Integer.MIN_VALUE, Integer.MAX_VALUE};
        for (int start : starts) {
            due("grow(" + start + ")", x.grow(start), BAD);
        }
        due("freeBlocks(0)", x.freeBlocks(0), 30);
        x.release(4);
        due("grow(4) after release", x.grow(4), BAD);
    }

    private static void growDoublesUpToAGroup() {
        for (int start = 0; start < 128; start += 32) {
            GroupAllocator x = new GroupAllocator(4);
            x.claim(0, start);
            for (int order = 1; order <= 5; order++) {
                due("grow(" + start + ")", x.grow(start), order);
                due("extentOf the last block", x.extentOf(start + (1 << order) - 1), start);
                due("freeRuns(0)", x.freeRuns(0), 128 - (1 << order));
                due("extents()", x.extents(), 1);
            }
            due("grow(" + start + ") of order 5", x.grow(start), NONE);
            due("freeRuns(5)", x.freeRuns(5), 3);
            due("release(" + start + ")", x.release(start), 5);
        }
    }

    private static void growNeedsTheLowerHalf() {
        GroupAllocator x = new GroupAllocator(2);
        x.claim(0, 1);
        x.claim(1, 6);
        x.claim(2, 12);
        x.claim(3, 24);
        x.claim(4, 48);
        int[] upperHalves = {1, 6, 12, 24, 48};
        for (int start : upperHalves) {
            due("grow(" + start + ")", x.grow(start), NONE);
        }
        due("freeRuns(0)", x.freeRuns(0), 33);
        due("release(48)", x.release(48), 4);
    }

    private static void growNeedsTheOtherHalfFree() {
        for (int taken = 12; taken < 16; taken++) {
            GroupAllocator x = new GroupAllocator(1);
            x.claim(2, 8);
            x.claim(0, taken);
            due("grow(8) with " + taken + " taken", x.grow(8), NONE);
            due("freeBlocks(0) after it", x.freeBlocks(0), 27);
            x.release(taken);
            x.claim(0, 7);
            x.claim(0, 16);
            due("grow(8) between two neighbours", x.grow(8), 3);
            due("extentOf(15)", x.extentOf(15), 8);
            due("extentOf(16)", x.extentOf(16), 16);
        }
    }

    private static void halveRefusesWrongNames() {
        GroupAllocator x = new GroupAllocator(2);
        x.claim(2, 4);
        int[] starts = {0, 5, 6, 8, 63, 64, 128, -1, -2, Integer.MIN_VALUE, Integer.MAX_VALUE};
        for (int start : starts) {
            due("halve(" + start + ")", x.halve(start), BAD);
        }
        due("freeBlocks(0)", x.freeBlocks(0), 28);
        x.release(4);
        due("halve(4) after release", x.halve(4), BAD);
    }

    private static void halveKeepsTheLowerHalf() {
        GroupAllocator x = new GroupAllocator(2);
        x.claim(5, 32);
        for (int order = 4; order >= 0; order--) {
            int size = 1 << order;
            due("halve(32)", x.halve(32), order);
            due("extentOf the last kept block", x.extentOf(32 + size - 1), 32);
            due("extentOf the first freed block", x.extentOf(32 + size), NONE);
            due("extentOf the last freed block", x.extentOf(32 + 2 * size - 1), NONE);
            due("freeBlocks(1)", x.freeBlocks(1), 32 - size);
            due("extents()", x.extents(), 1);
        }
        due("halve(32) of order 0", x.halve(32), NONE);
        due("extentOf(32)", x.extentOf(32), 32);
        due("grow(32)", x.grow(32), 1);
        due("halve(32)", x.halve(32), 0);
        due("release(32)", x.release(32), 0);
        x.claim(2, 0);
        x.claim(2, 4);
        due("halve(0)", x.halve(0), 1);
        due("extentOf(4) of the neighbour", x.extentOf(4), 4);
        due("release(4) of the neighbour", x.release(4), 2);
    }

    private static void extentOfNamesEachBlock() {
        GroupAllocator x = new GroupAllocator(3);
        int[] noBlocks = {-1, -2, 96, 97, 127, 128, Integer.MIN_VALUE, Integer.MAX_VALUE};
        for (int block : noBlocks) {
            due("extentOf(" + block + ")", x.extentOf(block), BAD);
        }
        x.claim(0, 0);
        x.claim(1, 2);
        x.claim(5, 64);
        int[] blocks = {0, 1, 2, 3, 4, 63, 64, 80, 95};
        int[] names = {0, NONE, 2, 2, NONE, NONE, 64, 64, 64};
        for (int i = 0; i < blocks.length; i++) {
            due("extentOf(" + blocks[i] + ")", x.extentOf(blocks[i]), names[i]);
        }
    }

    private static void freeBlocksCountsOneGroup() {
        GroupAllocator x = new GroupAllocator(3);
        int[] noGroups = {-1, 3, 4, 32, Integer.MIN_VALUE, Integer.MAX_VALUE};
        for (int group : noGroups) {
            due("freeBlocks(" + group + ")", x.freeBlocks(group), BAD);
        }
        x.claim(0, 31);
        x.claim(3, 32);
        x.claim(0, 63);
        x.claim(5, 64);
        due("freeBlocks(0)", x.freeBlocks(0), 31);
        due("freeBlocks(1)", x.freeBlocks(1), 23);
        due("freeBlocks(2)", x.freeBlocks(2), 0);
        x.release(32);
        x.halve(64);
        due("freeBlocks(1) after release", x.freeBlocks(1), 31);
        due("freeBlocks(2) after halve", x.freeBlocks(2), 16);
    }

    private static void largestFreeLooksAtAlignedRuns() {
        GroupAllocator x = new GroupAllocator(3);
        int[] noGroups = {-1, 3, 4, 32, Integer.MIN_VALUE, Integer.MAX_VALUE};
        for (int group : noGroups) {
            due("largestFree(" + group + ")", x.largestFree(group), BAD);
        }
        due("largestFree(2)", x.largestFree(2), 5);
        x.claim(5, 64);
        due("largestFree(2) of a full group", x.largestFree(2), NONE);
        x.claim(0, 32);
        due("largestFree(1)", x.largestFree(1), 4);
        x.claim(0, 63);
        due("largestFree(1) with 30 blocks free in the middle", x.largestFree(1), 3);
        due("largestFree(0)", x.largestFree(0), 5);
        GroupAllocator y = new GroupAllocator(1);
        for (int block = 0; block < 32; block += 2) {
            y.claim(0, block);
        }
        due("largestFree(0) with each other block taken", y.largestFree(0), 0);
        y.release(4);
        due("largestFree(0) with one pair free", y.largestFree(0), 1);
        y.release(6);
        due("largestFree(0) with two pairs free", y.largestFree(0), 2);
    }

    private static void freeRunsCountsAlignedRuns() {
        GroupAllocator x = new GroupAllocator(3);
        for (int order : WRONG_ORDERS) {
            due("freeRuns(" + order + ")", x.freeRuns(order), BAD);
        }
        dueFreeRuns(x, new int[] {96, 48, 24, 12, 6, 3});
        x.claim(0, 31);
        dueFreeRuns(x, new int[] {95, 47, 23, 11, 5, 2});
        x.claim(0, 32);
        dueFreeRuns(x, new int[] {94, 46, 22, 10, 4, 1});
        x.claim(0, 34);
        dueFreeRuns(x, new int[] {93, 45, 22, 10, 4, 1});
        x.claim(5, 64);
        dueFreeRuns(x, new int[] {61, 29, 14, 6, 2, 0});
        x.claim(4, 0);
        x.claim(4, 48);
        x.claim(3, 16);
        x.claim(3, 40);
        dueFreeRuns(x, new int[] {13, 5, 2, 0, 0, 0});
        x.release(64);
        dueFreeRuns(x, new int[] {45, 21, 10, 4, 2, 1});
    }

    private static void dueFreeRuns(GroupAllocator x, int[] counts) {
        for (int order = 0; order <= 5; order++) {
            due("freeRuns(" + order + ")", x.freeRuns(order), counts[order]);
        }
    }

    private static void extentsAreCounted() {
        GroupAllocator x = new GroupAllocator(4);
        due("extents()", x.extents(), 0);
        for (int block = 0; block < 128; block++) {
            x.claim(0, block);
            due("extents() after " + (block + 1) + " claims", x.extents(), block + 1);
        }
        x.allocate(0, 0);
        due("extents() after allocate found none", x.extents(), 128);
        x.release(127);
        x.release(126);
        due("extents() after two releases", x.extents(), 126);
        x.claim(1, 126);
        due("extents() after a claim of two blocks", x.extents(), 127);
        x.halve(126);
        due("extents() after halve", x.extents(), 127);
        x.grow(126);
        due("extents() after grow", x.extents(), 127);
    }
}
