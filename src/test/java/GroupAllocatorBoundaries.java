import java.util.Arrays;
import java.util.function.Consumer;
import java.util.function.IntConsumer;

// Each sentence of the document that names a boundary case, with a test of its own that bears the sentence's words.
public final class GroupAllocatorBoundaries {
    private static final int BAD = -1;
    private static final int NONE = -2;
    // The document promises nothing after an object's 512th call.
    private static final int CALLS = 512;

    private static final int[] TOO_SMALL = {-1, -2, -3, -31, -32, -33, -64, -128, -(1 << 30),
        Integer.MIN_VALUE, Integer.MIN_VALUE + 1, Integer.MIN_VALUE + 32};
    // The greater ones are those for which a shift or a product would wrap around to something small.
    private static final int[] ORDERS_TOO_LARGE = {6, 7, 8, 31, 32, 33, 37, 63, 64, 1 << 30, Integer.MAX_VALUE};
    private static final int[] PAST_THE_END = {0, 1, 2, 31, 32, 64, 96, 128, 1024};
    private static final int[] VERY_LARGE = {1 << 27, 1 << 30, Integer.MAX_VALUE - 31, Integer.MAX_VALUE - 1,
        Integer.MAX_VALUE};

    private static String current = "";
    private static int tests = 0;
    private static int failedTests = 0;
    private static int wrong = 0;

    private static void boundary(String sentence, Runnable test) {
        current = sentence;
        tests++;
        int before = wrong;
        try {
            test.run();
        } catch (RuntimeException thrown) {
            wrong++;
            System.out.println(sentence + "\n    a call threw " + thrown);
        }
        if (wrong != before) {
            failedTests++;
            System.out.println("broken: " + sentence);
        }
    }

    private static void due(String call, int got, int want) {
        if (got != want) {
            wrong++;
            System.out.println(current + "\n    " + call + " answered " + got + ", due is " + want);
        }
    }

    // An allocator whose every call is made with the answer that is due.
    private static final class Disk {
        final int groups;
        final int blocks;
        final String title;
        final GroupAllocator x;
        int calls = 0;

        Disk(String kind, int groups) {
            this.groups = groups;
            blocks = 32 * groups;
            title = kind + " disk of " + groups + ": ";
            x = new GroupAllocator(groups);
        }

        Disk(int groups) {
            this("a", groups);
        }

        void answered(String call, int got, int want) {
            count(1);
            due(title + call, got, want);
        }

        void count(int made) {
            calls += made;
            if (calls > CALLS) {
                throw new IllegalStateException("(not the class: the test itself makes too many calls)");
            }
        }

        void allocate(int order, int goal, int want) {
            answered("allocate(" + order + ", " + goal + ")", x.allocate(order, goal), want);
        }

        void claim(int order, int start, int want) {
            answered("claim(" + order + ", " + start + ")", x.claim(order, start), want);
        }

        void take(int order, int... starts) {
            for (int start : starts) {
                claim(order, start, start);
            }
        }

        void release(int start, int want) {
            answered("release(" + start + ")", x.release(start), want);
        }

        void grow(int start, int want) {
            answered("grow(" + start + ")", x.grow(start), want);
        }

        void halve(int start, int want) {
            answered("halve(" + start + ")", x.halve(start), want);
        }

        void extentOf(int block, int want) {
            answered("extentOf(" + block + ")", x.extentOf(block), want);
        }

        void freeBlocks(int group, int want) {
            answered("freeBlocks(" + group + ")", x.freeBlocks(group), want);
        }

        void largestFree(int group, int want) {
            answered("largestFree(" + group + ")", x.largestFree(group), want);
        }

        void freeRuns(int order, int want) {
            answered("freeRuns(" + order + ")", x.freeRuns(order), want);
        }

        void extents(int want) {
            answered("extents()", x.extents(), want);
        }

        void allFree() {
            extents(0);
            freeRuns(5, groups);
        }

        int[] owners() {
            int[] owners = new int[blocks];
            for (int block = 0; block < blocks; block++) {
                owners[block] = x.extentOf(block);
            }
            count(blocks);
            return owners;
        }

        void mustStand(int[] owners) {
            for (int block = 0; block < blocks; block++) {
                extentOf(block, owners[block]);
            }
        }

        // The blocks of an extent tell its order, so release must answer with this one; at the end all is free.
        void releaseAll(int[] owners) {
            for (int start = 0; start < blocks; start++) {
                if (owners[start] == start) {
                    int name = start;
                    int size = (int) Arrays.stream(owners).filter(owner -> owner == name).count();
                    release(start, Integer.numberOfTrailingZeros(size));
                }
            }
            allFree();
        }

        void changesNothing(Consumer<Disk> refusedCalls) {
            int[] owners = owners();
            refusedCalls.accept(this);
            mustStand(owners);
            releaseAll(owners);
        }
    }

    private static Disk fullDisk(int order, int groups) {
        Disk disk = new Disk("full", groups);
        for (int start = 0; start < disk.blocks; start += 1 << order) {
            disk.take(order, start);
        }
        return disk;
    }

    // Each group has extents of the orders 0 to 3 and holes of the same sizes.
    private static Disk mixedDisk(int groups) {
        Disk disk = new Disk("mixed", groups);
        for (int base = 0; base < disk.blocks; base += 32) {
            disk.take(0, base + 1);
            disk.take(1, base + 2);
            disk.take(2, base + 8);
            disk.take(3, base + 24);
        }
        return disk;
    }

    // A wrong argument is wrong whatever the disk holds, and changes nothing there.
    private static void refusedOnEachDisk(Consumer<Disk> refusedCalls) {
        for (int groups = 1; groups <= 4; groups++) {
            new Disk("empty", groups).changesNothing(refusedCalls);
            mixedDisk(groups).changesNothing(refusedCalls);
            fullDisk(3, groups).changesNothing(refusedCalls);
            fullDisk(5, groups).changesNothing(refusedCalls);
        }
    }

    private static void forEach(int[] values, IntConsumer body) {
        Arrays.stream(values).forEach(body);
    }

    private static void forEachTooLarge(int end, IntConsumer body) {
        for (int past : PAST_THE_END) {
            body.accept(end + past);
        }
        forEach(VERY_LARGE, body);
    }

    // Promise 1

    private static void newObject() {
        boundary("1: G is groups clamped into 1..4 (too small: 1)", () -> {
            dueGroups(0, 1);
            forEach(TOO_SMALL, groups -> dueGroups(groups, 1));
        });
        boundary("1: G is groups clamped into 1..4 (too large: 4)", () -> {
            int[] given = {5, 6, 8, 31, 32, 36, 128, 1 << 26, 1 << 27, 1 << 30, Integer.MAX_VALUE};
            forEach(given, groups -> dueGroups(groups, 4));
        });
        boundary("1: G is groups clamped into 1..4 (the edges and between them: as given)", () -> {
            for (int groups = 1; groups <= 4; groups++) {
                dueGroups(groups, groups);
            }
        });
        boundary("1: All blocks are free (from the first to the last, of every group)", () -> {
            for (int groups = 1; groups <= 4; groups++) {
                Disk disk = new Disk("new", groups);
                for (int block = 0; block < disk.blocks; block++) {
                    disk.extentOf(block, NONE);
                    disk.take(0, block);
                }
            }
        });
    }

    private static void dueGroups(int given, int groups) {
        GroupAllocator x = new GroupAllocator(given);
        String made = "new GroupAllocator(" + given + "): ";
        due(made + "freeBlocks of the last group", x.freeBlocks(groups - 1), 32);
        due(made + "freeBlocks past the last group", x.freeBlocks(groups), BAD);
        due(made + "extentOf the last block", x.extentOf(32 * groups - 1), NONE);
        due(made + "extentOf past the last block", x.extentOf(32 * groups), BAD);
        due(made + "freeRuns(5)", x.freeRuns(5), groups);
        due(made + "allocate at the last block", x.allocate(0, 32 * groups - 1), 32 * groups - 1);
    }

    // Promise 2

    private static void allocateRefusals() {
        boundary("2: order outside 0..5: BAD (too small)", () -> refusedOnEachDisk(disk ->
            forEach(TOO_SMALL, order -> {
                disk.allocate(order, 0, BAD);
                disk.allocate(order, disk.blocks - 1, BAD);
            })));
        boundary("2: order outside 0..5: BAD (too large)", () -> refusedOnEachDisk(disk ->
            forEach(ORDERS_TOO_LARGE, order -> {
                disk.allocate(order, 0, BAD);
                disk.allocate(order, disk.blocks - 1, BAD);
            })));
        boundary("2: order outside 0..5: BAD (0 and 5 are inside)", () -> {
            Disk disk = new Disk(2);
            disk.allocate(0, 0, 0);
            disk.allocate(5, 0, 32);
        });
        boundary("2: goal outside 0 .. 32 * G - 1: BAD (too small)", () -> refusedOnEachDisk(disk ->
            forEach(TOO_SMALL, goal -> {
                disk.allocate(0, goal, BAD);
                disk.allocate(5, goal, BAD);
            })));
        boundary("2: goal outside 0 .. 32 * G - 1: BAD (too large)", () -> refusedOnEachDisk(disk ->
            forEachTooLarge(disk.blocks, goal -> {
                disk.allocate(0, goal, BAD);
                disk.allocate(5, goal, BAD);
            })));
        boundary("2: goal outside 0 .. 32 * G - 1: BAD (0 and 32 * G - 1 are inside)", () -> {
            for (int groups = 1; groups <= 4; groups++) {
                Disk disk = new Disk(groups);
                disk.allocate(0, 0, 0);
                disk.allocate(0, disk.blocks - 1, disk.blocks - 1);
            }
        });
        boundary("2: order outside .. or goal outside ..: BAD (both at once)", () -> refusedOnEachDisk(disk -> {
            disk.allocate(-1, -1, BAD);
            disk.allocate(-1, disk.blocks, BAD);
            disk.allocate(6, -1, BAD);
            disk.allocate(6, disk.blocks, BAD);
            disk.allocate(Integer.MIN_VALUE, Integer.MIN_VALUE, BAD);
            disk.allocate(Integer.MAX_VALUE, Integer.MAX_VALUE, BAD);
        }));
    }

    private static void allocateInTheGoalsGroup() {
        boundary("2: the runs .. with first block >= goal (a run that begins at the goal)", () -> {
            for (int order = 0; order <= 5; order++) {
                for (int goal = 0; goal < 128; goal += 1 << order) {
                    new Disk("empty", 4).allocate(order, goal, goal);
                }
            }
        });
        boundary("2: the runs .. with first block >= goal (a run that begins before the goal is none of them)", () -> {
            new Disk(2).allocate(1, 1, 2);
            new Disk(2).allocate(2, 33, 36);
            new Disk(2).allocate(3, 7, 8);
            new Disk(2).allocate(3, 8 + 7, 16);
            new Disk(2).allocate(4, 32 + 1, 48);
            new Disk(2).allocate(4, 15, 16);
        });
        boundary("2: the runs .. with first block >= goal, the smallest first", () -> {
            Disk disk = new Disk(2);
            int[] starts = {12, 16, 20, 24, 28};
            forEach(starts, start -> disk.allocate(2, 9, start));
        });
        boundary("2: the other runs of this order in that group (the goal is past the last run's first block)", () -> {
            for (int groups = 1; groups <= 4; groups++) {
                for (int base = 0; base < 32 * groups; base += 32) {
                    new Disk("empty", groups).allocate(1, base + 31, base);
                    new Disk("empty", groups).allocate(3, base + 25, base);
                    new Disk("empty", groups).allocate(4, base + 17, base);
                    new Disk("empty", groups).allocate(5, base + 1, base);
                    new Disk("empty", groups).allocate(5, base + 31, base);
                }
            }
        });
        boundary("2: the other runs of this order in that group, the smallest first", () -> {
            Disk disk = new Disk(3);
            int[] starts = {56, 60, 32, 36, 40, 44, 48, 52};
            forEach(starts, start -> disk.allocate(2, 54, start));
        });
        boundary("2: the other runs of this order in that group (up to the one that the goal lies in)", () -> {
            Disk disk = new Disk(3);
            disk.take(3, 32, 40, 56);
            disk.allocate(3, 49, 48);
            Disk last = new Disk(2);
            last.take(0, 0);
            last.allocate(4, 31, 16);
        });
    }

    private static void allocateInOtherGroups() {
        boundary("2: the runs of this order in the next group, the smallest first (the goal's group is full)", () -> {
            Disk disk = new Disk(4);
            disk.take(5, 32);
            // Where in its own group the goal lies doesn't matter any more.
            disk.allocate(3, 45, 64);
            disk.allocate(3, 61, 72);
            disk.allocate(3, 56, 80);
            disk.allocate(3, 32, 88);
        });
        boundary("2: the next group (the goal's group has free blocks, but no free run of this order)", () -> {
            Disk disk = new Disk(3);
            disk.take(0, 35, 63);
            disk.allocate(4, 32, 64);
            disk.allocate(5, 32, 0);
        });
        boundary("2: the next group (it comes before the group before the goal's)", () -> {
            for (int home = 1; home <= 2; home++) {
                Disk disk = new Disk(4);
                disk.take(5, 32 * home);
                disk.allocate(0, 32 * home + 5, 32 * (home + 1));
            }
        });
        boundary("2: in the group after that; and so on through all other groups", () -> {
            Disk disk = new Disk(4);
            int[] starts = {32, 64, 96, 0};
            forEach(starts, start -> disk.allocate(5, 40, start));
            for (int home = 0; home < 4; home++) {
                for (int hole = 0; hole < 4; hole++) {
                    Disk full = fullDisk(5, 4);
                    full.release(32 * hole, 5);
                    full.allocate(5, 32 * home + 31, 32 * hole);
                }
            }
        });
        boundary("2: group 0 comes after group G-1", () -> {
            for (int groups = 2; groups <= 4; groups++) {
                Disk disk = new Disk(groups);
                disk.take(5, disk.blocks - 32);
                disk.allocate(2, disk.blocks - 1, 0);
                disk.allocate(2, disk.blocks - 32, 4);
            }
        });
        boundary("2: the whole order of the runs, from the goal through all groups", () -> {
            Disk disk = new Disk(3);
            int[] starts = {48, 56, 32, 40, 64, 72, 80, 88, 0, 8, 16, 24};
            forEach(starts, start -> disk.allocate(3, 41, start));
            disk.allocate(3, 41, NONE);
        });
    }

    private static void allocateAllFreeOrNone() {
        boundary("2: the first of these whose blocks are all free (any one block of the run is taken)", () -> {
            for (int order = 1; order <= 4; order++) {
                int size = 1 << order;
                for (int taken = 0; taken < size; taken++) {
                    Disk disk = new Disk(1);
                    disk.take(0, taken);
                    disk.allocate(order, 0, size);
                }
            }
            for (int taken = 0; taken < 32; taken++) {
                Disk disk = new Disk(2);
                disk.take(0, taken);
                disk.allocate(5, 0, 32);
            }
        });
        boundary("2: There is none: NONE (a full disk)", () -> {
            for (int groups = 1; groups <= 4; groups++) {
                fullDisk(5, groups).changesNothing(GroupAllocatorBoundaries::findsNoneAtAnyOrder);
                fullDisk(2, groups).changesNothing(GroupAllocatorBoundaries::findsNoneAtAnyOrder);
            }
        });
        boundary("2: There is none: NONE (one group, full: no other group comes after it)", () -> {
            Disk disk = fullDisk(4, 1);
            disk.allocate(0, 0, NONE);
            disk.allocate(0, 31, NONE);
            disk.allocate(4, 16, NONE);
        });
        boundary("2: There is none: NONE (blocks are free, but no run of this order)", () -> {
            for (int order = 1; order <= 5; order++) {
                int tried = order;
                // One taken block in each run of the order, at the run's end.
                Disk disk = new Disk(2);
                for (int end = (1 << order) - 1; end < 64; end += 1 << order) {
                    disk.take(0, end);
                }
                disk.changesNothing(unused -> {
                    disk.allocate(tried, 0, NONE);
                    disk.allocate(tried, 63, NONE);
                });
            }
        });
        boundary("2: There is none: NONE (enough free blocks side by side, but no multiple of 2^k or two groups)", () -> {
            Disk disk = new Disk(2);
            disk.take(4, 0, 48);
            disk.allocate(5, 16, NONE);
            Disk shifted = new Disk(1);
            shifted.take(3, 0, 24);
            shifted.allocate(4, 8, NONE);
            Disk pair = fullDisk(0, 1);
            pair.release(7, 0);
            pair.release(8, 0);
            pair.allocate(1, 7, NONE);
        });
        boundary("2: Else answers the first block of the run, which is an extent now (at both ends of the disk)", () -> {
            for (int order = 0; order <= 5; order++) {
                int size = 1 << order;
                int last = 128 - size;
                Disk disk = new Disk(4);
                disk.allocate(order, 0, 0);
                disk.allocate(order, last, last);
                int[] owners = new int[128];
                for (int block = 0; block < 128; block++) {
                    owners[block] = block < size ? 0 : block < last ? NONE : last;
                }
                disk.extents(2);
                disk.mustStand(owners);
                disk.release(0, order);
                disk.release(last, order);
                disk.allFree();
            }
        });
    }

    private static void findsNoneAtAnyOrder(Disk disk) {
        for (int order = 0; order <= 5; order++) {
            disk.allocate(order, 0, NONE);
            disk.allocate(order, 31, NONE);
            disk.allocate(order, disk.blocks - 1, NONE);
        }
    }

    // Promise 3

    private static void claimRefusals() {
        boundary("3: order outside 0..5: BAD (too small)", () -> refusedOnEachDisk(disk ->
            forEach(TOO_SMALL, order -> {
                disk.claim(order, 0, BAD);
                disk.claim(order, 1, BAD);
                disk.claim(order, disk.blocks - 32, BAD);
            })));
        boundary("3: order outside 0..5: BAD (too large)", () -> refusedOnEachDisk(disk ->
            forEach(ORDERS_TOO_LARGE, order -> {
                disk.claim(order, 0, BAD);
                disk.claim(order, 1, BAD);
                disk.claim(order, disk.blocks - 32, BAD);
            })));
        boundary("3: start outside 0 .. 32 * G - 1: BAD (too small)", () -> refusedOnEachDisk(disk ->
            forEach(TOO_SMALL, start -> {
                disk.claim(0, start, BAD);
                disk.claim(5, start, BAD);
            })));
        boundary("3: start outside 0 .. 32 * G - 1: BAD (too large)", () -> refusedOnEachDisk(disk ->
            forEachTooLarge(disk.blocks, start -> {
                disk.claim(0, start, BAD);
                disk.claim(5, start, BAD);
            })));
        boundary("3: start no multiple of 2^order: BAD", () -> {
            for (int order = 1; order <= 5; order++) {
                int size = 1 << order;
                int tried = order;
                Disk disk = new Disk(4);
                disk.changesNothing(unused -> {
                    for (int off = 1; off < size; off++) {
                        disk.claim(tried, off, BAD);
                        disk.claim(tried, 128 - size + off, BAD);
                    }
                    disk.claim(tried, 64 + size / 2, BAD);
                });
            }
        });
        boundary("3: BAD comes before NONE (a wrong argument where blocks are taken too)", () -> {
            Disk disk = fullDisk(5, 2);
            disk.claim(1, 1, BAD);
            disk.claim(5, 16, BAD);
            disk.claim(5, 48, BAD);
            disk.claim(6, 0, BAD);
            disk.claim(-1, 0, BAD);
            disk.claim(0, 64, BAD);
            disk.claim(1, 63, BAD);
        });
    }

    private static void claimAnswers() {
        boundary("3: the edges inside: the first and the last run of each order are claimed", () -> {
            for (int groups = 1; groups <= 4; groups++) {
                for (int order = 0; order <= 5; order++) {
                    Disk first = new Disk(groups);
                    first.claim(order, 0, 0);
                    Disk last = new Disk(groups);
                    last.claim(order, last.blocks - (1 << order), last.blocks - (1 << order));
                }
            }
        });
        boundary("3: some block of the run is not free: NONE (any one block, the first and the last too)", () -> {
            for (int order = 0; order <= 5; order++) {
                for (int taken = 32; taken < 32 + (1 << order); taken++) {
                    int tried = order;
                    Disk disk = new Disk(2);
                    disk.take(0, taken);
                    disk.changesNothing(unused -> disk.claim(tried, 32, NONE));
                }
            }
        });
        boundary("3: some block of the run is not free: NONE (the run lies inside a greater extent)", () -> {
            Disk disk = new Disk(1);
            disk.take(4, 16);
            disk.changesNothing(unused -> {
                disk.claim(0, 16, NONE);
                disk.claim(0, 31, NONE);
                disk.claim(2, 24, NONE);
                disk.claim(4, 16, NONE);
                disk.claim(5, 0, NONE);
            });
        });
        boundary("3: some block of the run is not free: NONE (a full disk)", () -> {
            for (int groups = 1; groups <= 4; groups++) {
                fullDisk(3, groups).changesNothing(disk -> {
                    for (int order = 0; order <= 5; order++) {
                        disk.claim(order, 0, NONE);
                        disk.claim(order, disk.blocks - 32, NONE);
                    }
                });
            }
        });
        boundary("3: Makes exactly the run .. (taken neighbours on both sides do not matter)", () -> {
            Disk disk = new Disk(2);
            disk.take(0, 27, 36);
            disk.take(2, 28, 32);
            disk.extentOf(27, 27);
            disk.extentOf(31, 28);
            disk.extentOf(32, 32);
            disk.extentOf(36, 36);
            disk.extentOf(26, NONE);
            disk.extentOf(37, NONE);
            disk.extents(4);
        });
    }

    // Promises 4, 5 and 6 all begin with the same sentence.

    private interface NameCall {
        void on(Disk disk, int start, int want);
    }

    private static void wrongNames(String promise, NameCall call) {
        String sentence = promise + ": start is not the name of an extent: BAD ";
        boundary(sentence + "(too small)", () -> refusedOnEachDisk(disk ->
            forEach(TOO_SMALL, start -> call.on(disk, start, BAD))));
        boundary(sentence + "(too large)", () -> refusedOnEachDisk(disk ->
            forEachTooLarge(disk.blocks, start -> call.on(disk, start, BAD))));
        boundary(sentence + "(an empty disk)", () -> {
            for (int groups = 1; groups <= 4; groups++) {
                new Disk("empty", groups).changesNothing(disk -> {
                    for (int start = 0; start < disk.blocks; start++) {
                        call.on(disk, start, BAD);
                    }
                });
            }
        });
        boundary(sentence + "(a free block beside an extent)", () -> {
            Disk disk = new Disk(2);
            disk.take(3, 24);
            disk.changesNothing(unused -> {
                call.on(disk, 16, BAD);
                call.on(disk, 23, BAD);
                call.on(disk, 32, BAD);
            });
        });
        boundary(sentence + "(a block of an extent, but not its first)", () -> {
            for (int order = 1; order <= 5; order++) {
                int size = 1 << order;
                Disk disk = new Disk(2);
                disk.take(order, 32);
                disk.changesNothing(unused -> {
                    for (int start = 33; start < 32 + size; start++) {
                        call.on(disk, start, BAD);
                    }
                });
            }
        });
        boundary(sentence + "(an extent that was released)", () -> {
            for (int order = 0; order <= 5; order++) {
                Disk disk = new Disk(1);
                disk.take(order, 0);
                disk.release(0, order);
                disk.changesNothing(unused -> call.on(disk, 0, BAD));
            }
        });
        boundary(sentence + "(a name once, now a block of another extent)", () -> {
            Disk disk = new Disk(1);
            disk.take(1, 8);
            disk.take(1, 10);
            disk.release(10, 1);
            disk.grow(8, 2);
            disk.changesNothing(unused -> call.on(disk, 10, BAD));
        });
        boundary(sentence + "(the upper half that halve freed)", () -> {
            Disk disk = new Disk(1);
            disk.take(3, 8);
            disk.halve(8, 2);
            disk.changesNothing(unused -> call.on(disk, 12, BAD));
        });
    }

    // Promise 4

    private static void releaseAnswers() {
        boundary("4: Frees all blocks of an extent (the smallest and the greatest, in each group)", () -> {
            for (int order = 0; order <= 5; order++) {
                for (int base = 0; base < 128; base += 32) {
                    Disk disk = new Disk(4);
                    int start = base + 32 - (1 << order);
                    disk.take(order, start);
                    disk.release(start, order);
                    disk.allFree();
                    disk.freeRuns(0, 128);
                }
            }
        });
        boundary("4: Frees all blocks of an extent (and none of its neighbours)", () -> {
            Disk disk = fullDisk(2, 2);
            disk.release(28, 2);
            disk.extentOf(27, 24);
            disk.extentOf(28, NONE);
            disk.extentOf(31, NONE);
            disk.extentOf(32, 32);
            disk.freeRuns(0, 4);
            disk.extents(15);
        });
        boundary("4: Else answers its order (after grow and halve, and for a new extent of an old name)", () -> {
            Disk disk = new Disk(1);
            disk.take(0, 0);
            disk.grow(0, 1);
            disk.release(0, 1);
            disk.take(5, 0);
            disk.halve(0, 4);
            disk.release(0, 4);
            disk.take(0, 0);
            disk.release(0, 0);
            disk.allocate(5, 0, 0);
            disk.release(0, 5);
            disk.allFree();
        });
        boundary("4: a full disk, released one by one, is empty again", () -> {
            for (int order = 0; order <= 5; order++) {
                Disk disk = fullDisk(order, 4);
                for (int start = 0; start < 128; start += 1 << order) {
                    disk.release(start, order);
                }
                disk.allFree();
            }
        });
    }

    // Promise 5

    private static void growRefusals() {
        boundary("5: Its order is 5: NONE (in each group, whatever the next group holds)", () -> {
            for (int groups = 1; groups <= 4; groups++) {
                for (int base = 0; base < 32 * groups; base += 32) {
                    int start = base;
                    Disk disk = new Disk(groups);
                    disk.take(5, start);
                    disk.changesNothing(unused -> disk.grow(start, NONE));
                }
                fullDisk(5, groups).changesNothing(disk -> {
                    for (int start = 0; start < disk.blocks; start += 32) {
                        disk.grow(start, NONE);
                    }
                });
            }
        });
        boundary("5: the run of the next order that contains it does not begin with it: NONE", () -> {
            for (int order = 0; order <= 4; order++) {
                int size = 1 << order;
                for (int upper = size; upper < 128; upper += 2 * size) {
                    int start = upper;
                    Disk disk = new Disk(4);
                    disk.take(order, start);
                    disk.changesNothing(unused -> disk.grow(start, NONE));
                }
            }
        });
        boundary("5: a block of the other half of that run is not free: NONE (any one block of it)", () -> {
            for (int order = 0; order <= 4; order++) {
                int size = 1 << order;
                for (int taken = 64 + size; taken < 64 + 2 * size; taken++) {
                    Disk disk = new Disk(3);
                    disk.take(order, 64);
                    disk.take(0, taken);
                    disk.changesNothing(unused -> disk.grow(64, NONE));
                }
            }
        });
        boundary("5: a block of the other half of that run is not free: NONE (the whole half is one extent)", () -> {
            for (int order = 0; order <= 4; order++) {
                Disk disk = new Disk(2);
                disk.take(order, 32, 32 + (1 << order));
                disk.changesNothing(unused -> disk.grow(32, NONE));
            }
        });
        boundary("5: a block of the other half of that run is not free: NONE (a full disk)", () ->
            fullDisk(2, 4).changesNothing(disk -> {
                for (int start = 0; start < 128; start += 4) {
                    disk.grow(start, NONE);
                }
            }));
    }

    private static void growAnswers() {
        boundary("5: Else answers the new order (from the smallest to the greatest, in each group)", () -> {
            for (int groups = 1; groups <= 4; groups++) {
                for (int start = 0; start < 32 * groups; start += 32) {
                    Disk disk = new Disk(groups);
                    disk.take(0, start);
                    for (int order = 1; order <= 5; order++) {
                        disk.grow(start, order);
                        disk.extentOf(start + (1 << order) - 1, start);
                        disk.freeRuns(0, disk.blocks - (1 << order));
                        disk.extents(1);
                    }
                    disk.grow(start, NONE);
                    disk.release(start, 5);
                    disk.allFree();
                }
            }
        });
        boundary("5: Doubles an extent where it is (taken blocks right before and right behind do not matter)", () -> {
            for (int order = 0; order <= 3; order++) {
                int size = 1 << order;
                Disk disk = new Disk(2);
                disk.take(order, 32);
                disk.take(0, 31, 32 + 2 * size);
                disk.grow(32, order + 1);
                disk.extentOf(31, 31);
                disk.extentOf(32 + 2 * size - 1, 32);
                disk.extentOf(32 + 2 * size, 32 + 2 * size);
                disk.extents(3);
            }
        });
        boundary("5: the last free run of a full disk is grown into", () -> {
            Disk disk = fullDisk(4, 2);
            disk.grow(32, NONE);
            disk.release(48, 4);
            disk.grow(32, 5);
            disk.freeRuns(0, 0);
        });
    }

    // Promise 6

    private static void halveAnswers() {
        boundary("6: its order is 0: NONE (on an empty and on a full disk)", () -> {
            int[] starts = {0, 1, 31, 32, 63};
            forEach(starts, start -> {
                Disk disk = new Disk(2);
                disk.take(0, start);
                disk.changesNothing(unused -> disk.halve(start, NONE));
            });
            fullDisk(0, 2).changesNothing(disk -> {
                for (int start = 0; start < 64; start++) {
                    disk.halve(start, NONE);
                }
            });
        });
        boundary("6: Else answers the new order (from the greatest down to 0, in each group)", () -> {
            for (int start = 0; start < 128; start += 32) {
                Disk disk = new Disk(4);
                disk.take(5, start);
                for (int order = 4; order >= 0; order--) {
                    disk.halve(start, order);
                    disk.extents(1);
                }
                disk.halve(start, NONE);
                disk.release(start, 0);
                disk.allFree();
            }
        });
        boundary("6: Keeps the lower half .. and frees the upper (the last block kept, the first and last freed)", () -> {
            for (int order = 1; order <= 5; order++) {
                int half = 1 << (order - 1);
                Disk disk = fullDisk(order, 2);
                disk.halve(32, order - 1);
                disk.extentOf(32, 32);
                disk.extentOf(32 + half - 1, 32);
                disk.extentOf(32 + half, NONE);
                disk.extentOf(32 + 2 * half - 1, NONE);
                disk.freeRuns(0, half);
                disk.freeRuns(order - 1, 1);
                disk.claim(order - 1, 32 + half, 32 + half);
                disk.release(32, order - 1);
            }
        });
        boundary("6: frees the upper half (and nothing of the extent behind it)", () -> {
            Disk disk = fullDisk(3, 2);
            disk.halve(24, 2);
            disk.extentOf(23, 16);
            disk.extentOf(27, 24);
            disk.extentOf(31, NONE);
            disk.extentOf(32, 32);
            disk.release(32, 3);
        });
    }

    // Promise 7

    private static void extentOfAnswers() {
        boundary("7: BAD if there is no such block (too small)", () -> refusedOnEachDisk(disk ->
            forEach(TOO_SMALL, block -> disk.extentOf(block, BAD))));
        boundary("7: BAD if there is no such block (too large)", () -> refusedOnEachDisk(disk ->
            forEachTooLarge(disk.blocks, block -> disk.extentOf(block, BAD))));
        boundary("7: NONE if it is free (every block of an empty disk)", () -> {
            for (int groups = 1; groups <= 4; groups++) {
                Disk disk = new Disk("empty", groups);
                for (int block = 0; block < disk.blocks; block++) {
                    disk.extentOf(block, NONE);
                }
            }
        });
        boundary("7: NONE if it is free (the only free block of a full disk)", () -> {
            int[] holes = {0, 1, 31, 32, 62, 63};
            forEach(holes, hole -> {
                Disk disk = fullDisk(0, 2);
                disk.release(hole, 0);
                for (int block = 0; block < 64; block++) {
                    disk.extentOf(block, block == hole ? NONE : block);
                }
            });
        });
        boundary("7: The name of the extent that a block belongs to (every block of a full disk)", () -> {
            for (int order = 0; order <= 5; order++) {
                Disk disk = fullDisk(order, 4);
                for (int block = 0; block < 128; block++) {
                    disk.extentOf(block, block - block % (1 << order));
                }
            }
        });
    }

    // Promises 8 and 9 refuse the same groups.

    private static void wrongGroups(String promise, NameCall call) {
        String sentence = promise + ": BAD for group outside 0..G-1 ";
        boundary(sentence + "(too small)", () -> refusedOnEachDisk(disk ->
            forEach(TOO_SMALL, group -> call.on(disk, group, BAD))));
        boundary(sentence + "(too large)", () -> refusedOnEachDisk(disk ->
            forEachTooLarge(disk.groups, group -> call.on(disk, group, BAD))));
    }

    // Promise 8

    private static void freeBlocksAnswers() {
        boundary("8: The number of free blocks in a group (every group of an empty disk)", () -> {
            for (int groups = 1; groups <= 4; groups++) {
                Disk disk = new Disk("empty", groups);
                for (int group = 0; group < groups; group++) {
                    disk.freeBlocks(group, 32);
                }
            }
        });
        boundary("8: The number of free blocks in a group (every group of a full disk)", () -> {
            for (int order = 0; order <= 5; order++) {
                Disk disk = fullDisk(order, 4);
                for (int group = 0; group < 4; group++) {
                    disk.freeBlocks(group, 0);
                }
            }
        });
        boundary("8: The number of free blocks in a group (one full group, the others empty)", () -> {
            for (int full = 0; full < 4; full++) {
                Disk disk = new Disk(4);
                disk.take(5, 32 * full);
                for (int group = 0; group < 4; group++) {
                    disk.freeBlocks(group, group == full ? 0 : 32);
                }
            }
        });
        boundary("8: The number of free blocks in a group (its first and its last block count)", () -> {
            int[] ends = {32, 63};
            forEach(ends, block -> {
                Disk disk = new Disk(3);
                disk.take(0, block);
                disk.freeBlocks(0, 32);
                disk.freeBlocks(1, 31);
                disk.freeBlocks(2, 32);
            });
        });
    }

    // Promise 9

    private static void largestFreeAnswers() {
        boundary("9: NONE if no block is free (a full group, of extents of any order)", () -> {
            for (int order = 0; order <= 5; order++) {
                for (int full = 0; full < 3; full++) {
                    Disk disk = new Disk(3);
                    for (int start = 32 * full; start < 32 * full + 32; start += 1 << order) {
                        disk.take(order, start);
                    }
                    for (int group = 0; group < 3; group++) {
                        disk.largestFree(group, group == full ? NONE : 5);
                    }
                }
            }
        });
        boundary("9: NONE if no block is free (but not if one is: the first, the last, any)", () -> {
            for (int hole = 32; hole < 64; hole++) {
                Disk disk = fullDisk(0, 2);
                disk.release(hole, 0);
                disk.largestFree(0, NONE);
                disk.largestFree(1, 0);
            }
        });
        boundary("9: The greatest order (5 in an empty group, 4 as soon as any block is taken)", () -> {
            for (int taken = 64; taken < 96; taken++) {
                Disk disk = new Disk(4);
                disk.largestFree(2, 5);
                disk.take(0, taken);
                disk.largestFree(1, 5);
                disk.largestFree(2, 4);
                disk.largestFree(3, 5);
            }
        });
        boundary("9: The greatest order (each order, free at the end of an otherwise full group)", () -> {
            for (int order = 0; order <= 4; order++) {
                Disk disk = fullDisk(order, 1);
                disk.release(32 - (1 << order), order);
                disk.largestFree(0, order);
            }
        });
        boundary("9: a run whose blocks are all free (side by side, but no multiple of 2^k)", () -> {
            Disk disk = new Disk(1);
            disk.take(3, 0, 24);
            disk.largestFree(0, 3);
            Disk pair = fullDisk(0, 1);
            pair.release(15, 0);
            pair.release(16, 0);
            pair.largestFree(0, 0);
            pair.release(17, 0);
            pair.largestFree(0, 1);
        });
        boundary("9: the group has a run (free blocks of the next group do not help)", () -> {
            Disk disk = new Disk(2);
            disk.take(4, 0, 48);
            disk.largestFree(0, 4);
            disk.largestFree(1, 4);
            disk.release(48, 4);
            disk.largestFree(0, 4);
            disk.largestFree(1, 5);
            Disk edge = fullDisk(0, 2);
            edge.release(31, 0);
            edge.release(32, 0);
            edge.largestFree(0, 0);
            edge.largestFree(1, 0);
        });
    }

    // Promise 10

    private static void freeRunsAnswers() {
        boundary("10: BAD for order outside 0..5 (too small)", () -> refusedOnEachDisk(disk ->
            forEach(TOO_SMALL, order -> disk.freeRuns(order, BAD))));
        boundary("10: BAD for order outside 0..5 (too large)", () -> refusedOnEachDisk(disk ->
            forEach(ORDERS_TOO_LARGE, order -> disk.freeRuns(order, BAD))));
        boundary("10: The number of runs .. whose blocks are all free (an empty disk: all of them)", () -> {
            int[] inOneGroup = {32, 16, 8, 4, 2, 1};
            for (int groups = 1; groups <= 4; groups++) {
                Disk disk = new Disk("empty", groups);
                for (int order = 0; order <= 5; order++) {
                    disk.freeRuns(order, inOneGroup[order] * groups);
                }
            }
        });
        boundary("10: The number of runs .. whose blocks are all free (a full disk: 0)", () -> {
            for (int groups = 1; groups <= 4; groups++) {
                Disk disk = fullDisk(2, groups);
                for (int order = 0; order <= 5; order++) {
                    disk.freeRuns(order, 0);
                }
            }
        });
        boundary("10: in all groups (one empty group, the others full)", () -> {
            int[] inOneGroup = {32, 16, 8, 4, 2, 1};
            for (int hole = 0; hole < 4; hole++) {
                Disk disk = fullDisk(5, 4);
                disk.release(32 * hole, 5);
                for (int order = 0; order <= 5; order++) {
                    disk.freeRuns(order, inOneGroup[order]);
                }
            }
        });
        boundary("10: whose blocks are all free (one taken block: one run less of every order)", () -> {
            for (int taken = 0; taken < 64; taken++) {
                Disk disk = new Disk(2);
                disk.take(0, taken);
                for (int order = 0; order <= 5; order++) {
                    disk.freeRuns(order, (64 >> order) - 1);
                }
            }
        });
        boundary("10: runs (side by side, but no multiple of 2^k or two groups: not counted)", () -> {
            Disk disk = new Disk(2);
            disk.take(4, 0, 48);
            disk.freeRuns(4, 2);
            disk.freeRuns(5, 0);
            Disk pair = fullDisk(0, 2);
            pair.release(31, 0);
            pair.release(32, 0);
            pair.freeRuns(0, 2);
            pair.freeRuns(1, 0);
        });
    }

    // Promise 11

    private static void extentsAnswers() {
        boundary("11: The number of extents (an empty disk: 0)", () -> {
            for (int groups = 1; groups <= 4; groups++) {
                Disk disk = new Disk("empty", groups);
                disk.extents(0);
                disk.take(0, disk.blocks - 1);
                disk.extents(1);
                disk.release(disk.blocks - 1, 0);
                disk.extents(0);
            }
        });
        boundary("11: The number of extents (a full disk, from one extent for a group to one for a block)", () -> {
            for (int groups = 1; groups <= 4; groups++) {
                for (int order = 0; order <= 5; order++) {
                    fullDisk(order, groups).extents(32 * groups >> order);
                }
            }
        });
        boundary("11: The number of extents (refused calls do not change it)", () -> {
            Disk disk = fullDisk(0, 1);
            disk.allocate(0, 0, NONE);
            disk.allocate(6, 0, BAD);
            disk.claim(0, 31, NONE);
            disk.claim(0, 32, BAD);
            disk.release(32, BAD);
            disk.grow(0, NONE);
            disk.grow(-1, BAD);
            disk.halve(0, NONE);
            disk.halve(32, BAD);
            disk.extents(32);
        });
        boundary("11: The number of extents (grow and halve do not change it)", () -> {
            Disk disk = new Disk(2);
            disk.take(0, 0);
            disk.take(4, 32);
            for (int order = 1; order <= 5; order++) {
                disk.grow(0, order);
                disk.extents(2);
            }
            for (int order = 3; order >= 0; order--) {
                disk.halve(32, order);
                disk.extents(2);
            }
        });
    }

    private static void callBound() {
        boundary("What it is: used for at most 512 calls (the 512th still answers as due)", () -> {
            Disk disk = new Disk(4);
            while (disk.calls < CALLS - 2) {
                disk.allocate(5, 127, 96);
                disk.release(96, 5);
            }
            disk.allocate(0, 127, 127);
            disk.extentOf(127, 127);
            due("the number of calls", disk.calls, CALLS);
        });
    }

    public static void main(String[] args) {
        newObject();
        allocateRefusals();
        allocateInTheGoalsGroup();
        allocateInOtherGroups();
        allocateAllFreeOrNone();
        claimRefusals();
        claimAnswers();
        wrongNames("4", Disk::release);
        releaseAnswers();
        wrongNames("5", Disk::grow);
        growRefusals();
        growAnswers();
        wrongNames("6", Disk::halve);
        halveAnswers();
        extentOfAnswers();
        wrongGroups("8", Disk::freeBlocks);
        freeBlocksAnswers();
        wrongGroups("9", Disk::largestFree);
        largestFreeAnswers();
        freeRunsAnswers();
        extentsAnswers();
        callBound();
        System.out.println(tests + " boundary cases, " + failedTests + " broken");
        if (wrong != 0) {
            System.exit(1);
        }
    }
}
