/** The edges of promises 10 to 13 and 17. */
final class LookEdges {
    private static final int BAD = RoofCourses.BAD, NONE = RoofCourses.NONE;
    private static final int FAR = Integer.MAX_VALUE, FAR_BELOW = Integer.MIN_VALUE;

    static void all(Edges edges) {
        heap(edges);
        heapBad(edges);
        told(edges);
        toldLapHeld(edges);
        toldCut(edges);
        cutOfItselfAlone(edges);
        toldBad(edges);
        joint(edges);
        jointBad(edges);
        jointNone(edges);
        slate(edges);
        slateBad(edges);
        slateNone(edges);
        count(edges);
        countLater(edges);
        countUndone(edges);
        countLetters(edges);
        countBad(edges);
    }

    private static RoofCourses three() {
        return CourseEdges.laid("h40,30,9;h40,20,9;h30,25,9;r100,80;p6,4;i2;", 40, 40, 30);
    }

    private static void heap(Edges edges) {
        edges.of("Promise 10", "Of a HEAP: LENGTH (what = 0), BREADTH (1), SLATES left (2), SLATES of it that are laid "
            + "(3; cut ones, too).");
        RoofCourses roof = three();
        edges.due("the first", Checks.heap(roof, 0), "40 30 5 4");
        edges.due("the second", Checks.heap(roof, 1), "40 20 7 2");
        edges.due("the last, two of four cut", Checks.heap(roof, 2), "30 25 5 4");
        edges.due("nothing laid", Checks.heap(new RoofCourses(), 0), "40 30 30 0");
        edges.due("none left", Checks.heap(CourseEdges.laid("h40,50,1;r100,40;", 40), 0), "40 50 0 1");
    }

    private static void heapBad(Edges edges) {
        edges.of("Promise 10", "BAD.");
        for (int h : new int[] {-1, 3, 7, 8, FAR, FAR_BELOW}) {
            for (int what = 0; what <= 3; what++) {
                int asked = what;
                edges.leaves("HEAP " + h + ", what " + what, LookEdges::three, roof -> roof.heap(h, asked), BAD);
            }
        }
        for (int what : new int[] {-1, 4, FAR, FAR_BELOW}) {
            edges.leaves("what " + what, LookEdges::three, roof -> roof.heap(0, what), BAD);
        }
        edges.due("HEAP 7 of eight", Checks.laid("h27,10,1;h26,10,1;h25,10,1;h24,10,1;h23,10,1;h22,10,1;h21,10,1;"
            + "h20,10,1;").heap(7, 0), 20);
        edges.due("HEAP 7 of seven", new RoofCourses().heap(7, 0), BAD);
    }

    private static void told(Edges edges) {
        edges.of("Promise 11", "Of a COURSE: LENGTH (what = 0), FOOT (1), GAUGE (2), ROOM (3), SLATES (4), WASTE (5),");
        RoofCourses roof = three();
        edges.due("the first", Checks.told(roof, 0), "40 0 17 80 3 0 6 0");
        edges.due("the second", Checks.told(roof, 1), "40 17 17 77 3 120 11 1");
        edges.due("the last", Checks.told(roof, 2), "30 34 12 74 4 780 -4 2");
        edges.due("the last of twenty", Checks.told(CourseEdges.twenty(), 19), "20 95 5 40 1 200 -4 1");
    }

    private static void toldLapHeld(Edges edges) {
        edges.of("Promise 11", "LAP HELD (6; NONE: there is none above it),");
        RoofCourses roof = CourseEdges.laid("h40,40,9;h30,40,9;r100,40;", 40);
        edges.due("the only one", roof.told(0, 6), NONE);
        roof.course(30);
        edges.due("one above", roof.told(0, 6), 11);
        edges.due("the last one", roof.told(1, 6), NONE);
        roof.up();
        edges.due("the only one again", roof.told(0, 6), NONE);
        RoofCourses twenty = CourseEdges.twenty();
        edges.due("the last of twenty but one", twenty.told(18, 6), 10);
        edges.due("the last of twenty", twenty.told(19, 6), NONE);
    }

    private static void toldCut(Edges edges) {
        edges.of("Promise 11", "how many of its SLATES are cut (7; the one that ENDS it, too, if so).");
        edges.due("none", CourseEdges.laid("h40,20,9;r100,40;", 40).told(0, 7), 0);
        edges.due("the one that ENDS it", CourseEdges.laid("h40,21,9;r100,40;", 40).told(0, 7), 1);
        edges.due("none above a JOINT", CourseEdges.laid("h40,20,9;h30,24,9;h30,16,9;r100,40;", 40, 30).told(1, 7), 0);
        edges.due("one for its JOINT alone", CourseEdges.laid("h40,21,9;h30,23,9;r100,40;", 40, 30).told(1, 7), 1);
        edges.due("one for its JOINT and the one that ENDS it", CourseEdges.laid("h20,10,99;r100,40;p10,4;", 20, 20).told(1, 7), 2);
    }

    private static void cutOfItselfAlone(Edges edges) {
        edges.of("Promise 11", "how many of its SLATES are cut (7; the one that ENDS it, too, if so).");
        RoofCourses roof = CourseEdges.laid("h40,20,9;h30,23,2;h20,25,9;r100,40;", 40);
        edges.due("tried, two cut", roof.tried(20, 0), 2);
        edges.due("can not be laid, one cut before", roof.course(30), -2);
        roof.course(20);
        edges.due("those of other tries do not count", Checks.told(roof, 1), "20 17 7 40 2 200 -4 1");
    }

    private static void toldBad(Edges edges) {
        edges.of("Promise 11", "BAD.");
        for (int c : new int[] {-1, 3, 19, 20, FAR, FAR_BELOW}) {
            for (int what = 0; what <= 7; what++) {
                int asked = what;
                edges.leaves("COURSE " + c + ", what " + what, LookEdges::three, roof -> roof.told(c, asked), BAD);
            }
        }
        for (int what : new int[] {-1, 8, FAR, FAR_BELOW}) {
            edges.leaves("what " + what, LookEdges::three, roof -> roof.told(2, what), BAD);
        }
        edges.due("no COURSE is laid", new RoofCourses().told(0, 0), BAD);
        RoofCourses roof = three();
        roof.up();
        edges.due("one that is taken up", roof.told(2, 0), BAD);
        edges.due("COURSE 20 of twenty", CourseEdges.twenty().told(20, 0), BAD);
    }

    private static void joint(Edges edges) {
        edges.of("Promise 12", "The k-th JOINT of a COURSE (0 the first from the left).");
        RoofCourses roof = three();
        edges.due("the first COURSE", roof.joint(0, 0) + " " + roof.joint(0, 1), "30 60");
        edges.due("the last COURSE", roof.joint(2, 0) + " " + roof.joint(2, 1) + " " + roof.joint(2, 2), "25 46 71");
    }

    private static void jointBad(Edges edges) {
        edges.of("Promise 12", "BAD (k below 0);");
        edges.leaves("-1", LookEdges::three, roof -> roof.joint(0, -1), BAD);
        edges.leaves("far below", LookEdges::three, roof -> roof.joint(0, FAR_BELOW), BAD);
        for (int c : new int[] {-1, 3, 20, FAR, FAR_BELOW}) {
            edges.leaves("COURSE " + c, LookEdges::three, roof -> roof.joint(c, 0), BAD);
            edges.leaves("ahead of NONE, COURSE " + c, LookEdges::three, roof -> roof.joint(c, 99), BAD);
        }
        edges.due("no COURSE is laid", new RoofCourses().joint(0, 0), BAD);
    }

    private static void jointNone(Edges edges) {
        edges.of("Promise 12", "NONE: not so many.");
        edges.leaves("the third of two", LookEdges::three, roof -> roof.joint(0, 2), NONE);
        for (int k : new int[] {3, 59, 60, 61, FAR}) {
            edges.leaves("JOINT " + k, LookEdges::three, roof -> roof.joint(0, k), NONE);
        }
        RoofCourses one = CourseEdges.laid("h40,40,9;r100,40;", 40);
        edges.due("one SLATE has none", one.joint(0, 0), NONE);
    }

    private static void slate(Edges edges) {
        edges.of("Promise 13", "The k-th SLATE of a COURSE (0 the first from the left): its HEAP (what = 0), "
            + "the BREADTH that is seen (1).");
        RoofCourses roof = three();
        edges.due("the first COURSE", Checks.slates(roof, 0), "0:30 0:30 1:20");
        edges.due("the second COURSE, cut at the end", Checks.slates(roof, 1), "1:20 0:30 0:27");
        edges.due("the last COURSE, cut for a JOINT", Checks.slates(roof, 2), "2:25 2:21 2:25 2:3");
    }

    private static void slateBad(Edges edges) {
        edges.of("Promise 13", "BAD (k below 0);");
        for (int what = 0; what <= 1; what++) {
            int asked = what;
            edges.leaves("-1, what " + what, LookEdges::three, roof -> roof.slate(0, -1, asked), BAD);
            edges.leaves("far below, what " + what, LookEdges::three, roof -> roof.slate(0, FAR_BELOW, asked), BAD);
            for (int c : new int[] {-1, 3, 20, FAR, FAR_BELOW}) {
                edges.leaves("COURSE " + c + ", what " + what, LookEdges::three, roof -> roof.slate(c, 0, asked), BAD);
                edges.leaves("ahead of NONE, COURSE " + c, LookEdges::three, roof -> roof.slate(c, 99, asked), BAD);
            }
        }
        for (int what : new int[] {-1, 2, FAR, FAR_BELOW}) {
            edges.leaves("what " + what, LookEdges::three, roof -> roof.slate(0, 0, what), BAD);
            edges.leaves("ahead of NONE, what " + what, LookEdges::three, roof -> roof.slate(0, 3, what), BAD);
        }
        edges.due("no COURSE is laid", new RoofCourses().slate(0, 0, 0), BAD);
    }

    private static void slateNone(Edges edges) {
        edges.of("Promise 13", "NONE: not so many.");
        for (int k : new int[] {3, 4, 59, 60, 61, FAR}) {
            edges.leaves("HEAP of SLATE " + k, LookEdges::three, roof -> roof.slate(0, k, 0), NONE);
            edges.leaves("BREADTH of SLATE " + k, LookEdges::three, roof -> roof.slate(0, k, 1), NONE);
        }
        edges.due("the last of three", three().slate(0, 2, 1), 20);
    }

    private static void count(Edges edges) {
        edges.of("Promise 17", "How many: 0 HEAPS, 1 COURSES, 2 HIGH, 3 WIDE, 4 LAP, 5 BREAK, 6 HIP,");
        edges.due("new", Checks.counts(new RoofCourses()), "7 0 110 130 6 4 2 0 0 0 239 0 0");
        edges.due("the least", Checks.counts(Checks.laid("h20,10,1;r20,40;p1,1;i0;")), "1 0 20 40 1 1 0 0 0 0 1 0 24");
        edges.due("the greatest", Checks.counts(Checks.laid("h20,10,1;r400,240;p10,9;i9;")),
            "1 0 400 240 10 9 9 0 0 0 1 0 27");
        edges.due("twenty COURSES", CourseEdges.twenty().count(1), 20);
    }

    private static void countLater(Edges edges) {
        edges.of("Promise 17", "7 the HEIGHT at which the next COURSE would have its FOOT, 8 1 if READY, else 0, "
            + "9 WASTE of all, 10 SLATES left,");
        edges.due("three COURSES", Checks.counts(three()), "3 3 100 80 6 4 2 46 0 900 17 3 43");
        RoofCourses ready = CourseEdges.laid("h40,45,2;r34,40;", 40);
        edges.due("HEIGHT, READY, WASTE, SLATES", row(ready), "17 0 200 1");
        ready.course(40);
        edges.due("READY, none left", row(ready), "34 1 400 0");
        ready.undo();
        edges.due("not any more", row(ready), "17 0 200 1");
        ready.up();
        edges.due("as at first", row(ready), "0 0 0 2");
        edges.due("beyond the ridge", row(CourseEdges.laid("h60,45,2;r20,40;", 60)), "27 1 300 1");
        edges.due("of twenty", row(CourseEdges.twenty()), "100 0 4000 79");
    }

    private static String row(RoofCourses roof) {
        return roof.count(7) + " " + roof.count(8) + " " + roof.count(9) + " " + roof.count(10);
    }

    private static void countUndone(Edges edges) {
        edges.of("Promise 17", "11 changes that can be UNDONE,");
        RoofCourses roof = new RoofCourses();
        for (int k = 1; k <= 8; k++) {
            roof.bring(0, 1);
            edges.due("of " + k, roof.count(11), Math.min(k, 6));
        }
        roof.undo();
        edges.due("undone", roof.count(11), 5);
    }

    private static void countLetters(Edges edges) {
        edges.of("Promise 17", "12 letters of THE TEXT.");
        RoofCourses roof = new RoofCourses();
        for (int k = 1; k <= 201; k++) {
            roof.write('x');
            edges.due("of " + k, roof.count(12), Math.min(k, 200));
        }
        roof.wipe();
        edges.due("wiped", roof.count(12), 0);
    }

    private static void countBad(Edges edges) {
        edges.of("Promise 17", "BAD.");
        for (int what : new int[] {-1, 13, FAR, FAR_BELOW}) {
            edges.leaves("what " + what, LookEdges::three, roof -> roof.count(what), BAD);
        }
    }
}
