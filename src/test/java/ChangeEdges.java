/** The edges of changes (part 3) and of promises 7 to 9. */
final class ChangeEdges {
    private static final int BAD = RoofCourses.BAD, NO = RoofCourses.NO, FULL = RoofCourses.FULL;
    private static final String TEXT = "h40,30,9;h40,25,9;h30,40,9;r100,70;";
    private static final String FULL_HEAP = "h20,40,99;".repeat(10) + "h20,40,9;h20,30,9;r400,40;p10,1;";

    static void all(Edges edges) {
        changes(edges);
        lastSix(edges);
        behindLaid(edges);
        up(edges);
        upNo(edges);
        bring(edges);
        bringBad(edges);
        bringFull(edges);
        laidDoNotCount(edges);
        takenUpComeToBeMore(edges);
        undo(edges);
        undoNo(edges);
    }

    private static void changes(Edges edges) {
        edges.ofTerms("A change: a COURSE laid, the last one taken up (its SLATES are whole again), SLATES brought.");
        RoofCourses roof = Checks.laid(TEXT);
        edges.due("none yet", roof.count(11), 0);
        roof.course(40);
        edges.due("a COURSE laid", roof.count(11), 1);
        roof.up();
        edges.due("taken up", roof.count(11), 2);
        edges.due("whole again", Checks.heap(roof, 0) + ", " + Checks.heap(roof, 1), "40 30 9 0, 40 25 9 0");
        roof.bring(0, 1);
        edges.due("brought", roof.count(11), 3);
        roof.write('i');
        roof.fault();
        roof.wipe();
        roof.lay();
        roof.tried(40, 0);
        roof.next(0);
        roof.itself(0, 0);
        edges.due("no other call is one", roof.count(11), 3);
        RoofCourses cut = CourseEdges.laid("h20,10,8;r100,40;p10,4;", 20);
        edges.due("four are too few", cut.course(20), NO);
        cut.bring(0, 1);
        cut.course(20);
        edges.due("all are laid, two of them cut", Checks.slates(cut, 1), "0:6 0:10 0:10 0:10 0:4");
        cut.up();
        edges.due("five are back", cut.heap(0, 2), 5);
        cut.up();
        cut.course(20);
        edges.due("and have their BREADTH", Checks.slates(cut, 0), "0:10 0:10 0:10 0:10");
    }

    private static RoofCourses brought(int times) {
        RoofCourses roof = Checks.laid(TEXT);
        for (int n = 1; n <= times; n++) {
            roof.bring(0, n);
        }
        return roof;
    }

    private static void lastSix(Edges edges) {
        edges.ofTerms("UNDONE is the latest change (the last 6 can be;");
        for (int times = 0; times <= 9; times++) {
            edges.due("of " + times, brought(times).count(11), Math.min(times, 6));
        }
        RoofCourses six = brought(6);
        for (int k = 5; k >= 0; k--) {
            edges.due("undo of 6", six.undo(), k);
        }
        edges.due("all six are undone", six.heap(0, 2), 9);
        RoofCourses seven = brought(7);
        for (int k = 6; k >= 1; k--) {
            edges.due("the latest goes first", seven.heap(0, 2), 9 + (k + 1) * (k + 2) / 2);
            edges.due("undo of 7", seven.undo(), k - 1);
        }
        edges.due("the first of seven stays", seven.heap(0, 2), 10);
        edges.due("it can not be undone", seven.undo(), NO);
        edges.due("still there", seven.heap(0, 2), 10);
        RoofCourses again = brought(8);
        again.undo();
        again.bring(0, 50);
        edges.due("six again", again.count(11), 6);
        again.bring(0, 60);
        for (int k = 5; k >= 0; k--) {
            again.undo();
        }
        edges.due("the first three stay", again.heap(0, 2), 9 + 1 + 2 + 3);
        edges.due("none is left", again.undo(), NO);
    }

    private static void behindLaid(Edges edges) {
        edges.ofTerms("behind LAID none can be).");
        RoofCourses roof = brought(3);
        edges.due("three before", roof.count(11), 3);
        roof.lay();
        edges.due("none behind", roof.count(11), 0);
        edges.due("undo", roof.undo(), NO);
        edges.due("SLATES as in the TEXT", roof.heap(0, 2), 9);
        roof.bring(0, 1);
        edges.due("one since", roof.undo(), 0);
        edges.due("no more", roof.undo(), NO);
        RoofCourses refused = brought(3);
        refused.write('x');
        refused.lay();
        edges.due("where lay() answers NO they still can be", refused.undo(), 2);
    }

    private static void up(Edges edges) {
        edges.of("Promise 7", "The last COURSE is taken up: how many are left.");
        RoofCourses roof = CourseEdges.laid(TEXT, 40, 30, 30);
        edges.due("of three", roof.up(), 2);
        edges.due("the last one", roof.heap(2, 3) + " " + roof.count(7) + " " + roof.told(2, 0), "2 29 -1");
        edges.due("of two", roof.up(), 1);
        edges.due("of one", roof.up(), 0);
        edges.due("nothing is laid", roof.count(1) + " " + roof.count(7) + " " + roof.count(9), "0 0 0");
        edges.due("of twenty", CourseEdges.twenty().up(), 19);
    }

    private static void upNo(Edges edges) {
        edges.of("Promise 7", "NO: there is none.");
        edges.leaves("of a new object", RoofCourses::new, RoofCourses::up, NO);
        edges.leaves("when SLATES were brought", () -> brought(2), RoofCourses::up, NO);
        edges.leaves("when all are taken up", ChangeEdges::oneTakenUp, RoofCourses::up, NO);
        edges.leaves("behind lay()", ChangeEdges::laidAnew, RoofCourses::up, NO);
    }

    private static RoofCourses oneTakenUp() {
        RoofCourses roof = CourseEdges.laid(TEXT, 40);
        roof.up();
        return roof;
    }

    private static RoofCourses laidAnew() {
        RoofCourses roof = CourseEdges.laid(TEXT, 40);
        roof.lay();
        return roof;
    }

    private static void bring(Edges edges) {
        edges.of("Promise 8", "n SLATES (1 to 99) are brought to a HEAP: how many are left there then.");
        RoofCourses roof = Checks.laid(TEXT);
        edges.due("1", roof.bring(0, 1), 10);
        edges.due("99", roof.bring(2, 99), 108);
        edges.due("to these alone", roof.heap(0, 2) + " " + roof.heap(1, 2) + " " + roof.heap(2, 2), "10 9 108");
        RoofCourses bare = CourseEdges.laid("h40,40,1;r100,40;", 40);
        edges.due("to one with none left", bare.bring(0, 1), 1);
        edges.due("those that are laid stay", bare.heap(0, 3), 1);
        edges.due("to the last of eight", Checks.laid("h27,10,1;h26,10,1;h25,10,1;h24,10,1;h23,10,1;h22,10,1;h21,10,1;"
            + "h20,10,1;").bring(7, 1), 2);
    }

    private static void bringBad(Edges edges) {
        edges.of("Promise 8", "BAD;");
        int[][] none = {{-1, 1}, {3, 1}, {8, 1}, {Integer.MIN_VALUE, 1}, {Integer.MAX_VALUE, 1}, {0, 0}, {0, 100}, {0, -1},
            {0, Integer.MIN_VALUE}, {0, Integer.MAX_VALUE}};
        for (int[] pair : none) {
            edges.leaves("HEAP " + pair[0] + ", n " + pair[1], () -> brought(2), roof -> roof.bring(pair[0], pair[1]), BAD);
        }
        edges.leaves("ahead of FULL", () -> Checks.laid(FULL_HEAP), roof -> roof.bring(0, 100), BAD);
        edges.leaves("0 to a full one", () -> Checks.laid(FULL_HEAP), roof -> roof.bring(0, 0), BAD);
    }

    private static void bringFull(Edges edges) {
        edges.of("Promise 8", "FULL: more than 999 would be left there");
        RoofCourses roof = Checks.laid("h20,40,99;".repeat(9) + "h20,40,9;");
        edges.due("999 in all", roof.bring(0, 99), 999);
        edges.leaves("1 more than 999", () -> Checks.laid(FULL_HEAP), full -> full.bring(0, 1), FULL);
        edges.leaves("99 more", () -> Checks.laid(FULL_HEAP), full -> full.bring(0, 99), FULL);
        edges.leaves("1 more than there is place for", () -> Checks.laid("h20,40,99;".repeat(10)),
            almost -> almost.bring(0, 10), FULL);
        edges.due("just so many", Checks.laid("h20,40,99;".repeat(10)).bring(0, 9), 999);
        edges.due("another HEAP is not full", Checks.laid(FULL_HEAP).bring(1, 99), 108);
    }

    private static RoofCourses twoOfAFullHeap() {
        return CourseEdges.laid(FULL_HEAP, 20, 20);
    }

    private static void laidDoNotCount(Edges edges) {
        edges.of("Promise 8", "(those that are laid do not count;");
        edges.due("two are laid", Checks.heap(twoOfAFullHeap(), 0), "20 40 997 2");
        edges.due("two are brought", twoOfAFullHeap().bring(0, 2), 999);
        edges.leaves("three", ChangeEdges::twoOfAFullHeap, roof -> roof.bring(0, 3), FULL);
    }

    private static RoofCourses moreThanFull() {
        RoofCourses roof = twoOfAFullHeap();
        roof.bring(0, 2);
        roof.up();
        return roof;
    }

    private static void takenUpComeToBeMore(Edges edges) {
        edges.of("Promise 8", "taken up they may come to be more).");
        RoofCourses roof = moreThanFull();
        edges.due("1000 are left", Checks.heap(roof, 0), "20 40 1000 1");
        edges.due("up again", roof.up(), 0);
        edges.due("1001 are left", Checks.heap(roof, 0), "20 40 1001 0");
        edges.due("SLATES left in all", roof.count(10), 1010);
        edges.leaves("no more is brought", ChangeEdges::moreThanFull, full -> full.bring(0, 1), FULL);
        edges.due("one is laid", roof.course(20), 1);
        edges.due("of these", Checks.heap(roof, 0), "20 40 1000 1");
        edges.due("a COURSE undone brings them back, too", roof.undo() + " " + roof.heap(0, 2), "5 1001");
    }

    private static void undo(Edges edges) {
        edges.of("Promise 9", "UNDONE: how many more can be.");
        RoofCourses roof = CourseEdges.laid("h40,30,1;h40,20,9;r100,70;", 40);
        String laid = Checks.all(roof);
        roof.bring(0, 9);
        String brought = Checks.all(roof);
        roof.up();
        String takenUp = Checks.all(roof);
        roof.course(40);
        edges.due("laid anew it is another one", Checks.slates(roof, 0), "0:30 0:30 1:10");
        edges.due("a COURSE", roof.undo(), 3);
        edges.due("is taken up", Checks.all(roof), takenUp);
        edges.due("one that was taken up", roof.undo(), 2);
        edges.due("is there as it was", Checks.all(roof), brought);
        edges.due("what was brought", roof.undo(), 1);
        edges.due("is gone", Checks.all(roof), laid);
        edges.due("the first COURSE", roof.undo(), 0);
        edges.due("is gone, too", Checks.counts(roof), "2 0 100 70 6 4 0 0 0 0 10 0 26");
        RoofCourses six = CourseEdges.twenty();
        for (int k = 5; k >= 0; k--) {
            edges.due("of twenty COURSES", six.undo(), k);
        }
        edges.due("fourteen stay", six.count(1) + " " + six.undo(), "14 -2");
        RoofCourses undoneUp = CourseEdges.twenty();
        undoneUp.up();
        undoneUp.undo();
        edges.due("the twentieth is back", Checks.told(undoneUp, 19), "20 95 5 40 1 200 -4 1");
    }

    private static void undoNo(Edges edges) {
        edges.of("Promise 9", "NO.");
        edges.leaves("of a new object", RoofCourses::new, RoofCourses::undo, NO);
        edges.leaves("behind lay()", ChangeEdges::laidAnew, RoofCourses::undo, NO);
        edges.leaves("when six of seven are undone", ChangeEdges::sixOfSevenUndone, RoofCourses::undo, NO);
        RoofCourses roof = sixOfSevenUndone();
        roof.undo();
        roof.bring(0, 5);
        edges.due("a new change can be", roof.undo(), 0);
    }

    private static RoofCourses sixOfSevenUndone() {
        RoofCourses roof = brought(7);
        for (int k = 0; k < 6; k++) {
            roof.undo();
        }
        return roof;
    }
}
