/** The edges that hold for several calls: BAD, NO, NONE, FULL, their order, and how long an object is used. */
final class RefusalEdges {
    private static final int BAD = RoofCourses.BAD, NO = RoofCourses.NO;
    private static final int FULL = RoofCourses.FULL, NONE = RoofCourses.NONE;

    static void all(Edges edges) {
        calls(edges);
        bad(edges);
        answers(edges);
        order(edges);
        nothingChanges(edges);
        asItStands(edges);
        textStays(edges);
    }

    private static void calls(Edges edges) {
        edges.of("What it is", "An object is used for at most 512 calls after it has been made; what later calls answer is free.");
        RoofCourses many = new RoofCourses();
        for (int call = 1; call <= 512; call += 2) {
            edges.due("call " + call, many.course(40), 5);
            edges.due("call " + (call + 1), many.up(), 0);
        }
        RoofCourses brought = new RoofCourses();
        for (int call = 1; call <= 512; call++) {
            edges.due("bring, call " + call, brought.bring(0, 1), 30 + call);
        }
        RoofCourses laid = Checks.laid("h20,50,99;r400,40;p10,1;");
        for (int call = 26; call <= 512; call++) {
            int due = call % 2 == 0 ? 20 : 0;
            edges.due("by itself, call " + call, laid.itself(0, call % 2 == 0 ? 0 : 2), due);
        }
    }

    private static void bad(Edges edges) {
        edges.ofTerms("BAD: a number is none that is told (HEAPS, COURSES such as there are).");
        RoofCourses roof = CourseEdges.laid("h40,40,9;h30,40,9;r100,40;", 40);
        edges.due("the last HEAP", roof.heap(1, 0), 30);
        edges.due("one more", roof.heap(2, 0), BAD);
        edges.due("to one more", roof.bring(2, 1), BAD);
        edges.due("the last COURSE", roof.told(0, 0), 40);
        edges.due("one more COURSE", roof.told(1, 0), BAD);
        roof.course(30);
        edges.due("when it is there", roof.told(1, 0), 30);
        roof.undo();
        edges.due("when it is undone", roof.told(1, 0), BAD);
        roof.wipe();
        Checks.write(roof, "h40,40,9;");
        edges.due("as long as it is not laid", roof.heap(1, 0), 30);
        roof.lay();
        edges.due("when it is laid", roof.heap(1, 0), BAD);
        edges.due("nor is there a COURSE", roof.told(0, 0), BAD);
    }

    private static void answers(Edges edges) {
        edges.ofTerms("NO: not as things stand. NONE: there is none. FULL.");
        edges.due("BAD", new RoofCourses().course(61), -1);
        edges.due("NO", new RoofCourses().up(), -2);
        edges.due("NONE", new RoofCourses().fault(), -4);
        RoofCourses full = new RoofCourses();
        Checks.write(full, "x".repeat(200));
        edges.due("FULL", full.write('x'), -3);
    }

    private static void order(Edges edges) {
        edges.ofTerms("Of several the first in this order;");
        RoofCourses full = new RoofCourses();
        Checks.write(full, "x".repeat(200));
        edges.due("write: BAD, FULL", full.write(31), BAD);
        RoofCourses heaped = Checks.laid("h20,40,99;".repeat(10) + "h20,40,9;r20,40;");
        edges.due("bring: BAD, FULL", heaped.bring(0, 100), BAD);
        RoofCourses ready = CourseEdges.laid("h60,40,9;r20,40;", 60);
        edges.due("course: BAD, NO", ready.course(19), BAD);
        edges.due("tried: BAD, NO", ready.tried(19, 0), BAD);
        edges.due("tried: BAD by what, NO", ready.tried(60, 2), BAD);
        edges.due("next: BAD, NONE", ready.next(2), BAD);
        edges.due("told: BAD by the COURSE, NONE", ready.told(1, 6), BAD);
        edges.due("joint: BAD by the COURSE, NONE", ready.joint(1, 9), BAD);
        edges.due("slate: BAD by what, NONE", ready.slate(0, 9, 2), BAD);
    }

    /** A roof in the midst of things: seven changes, three courses, a text with a fault. */
    private static RoofCourses busy() {
        RoofCourses roof = Checks.laid("h40,30,9;h40,20,9;h30,25,9;r100,80;p6,4;i2;");
        roof.bring(2, 4);
        roof.course(40);
        roof.course(40);
        roof.up();
        roof.bring(0, 1);
        roof.course(40);
        roof.course(30);
        Checks.write(roof, "i10;");
        return roof;
    }

    private static RoofCourses busyAndFull() {
        RoofCourses roof = busy();
        Checks.write(roof, "x".repeat(200 - roof.count(12)));
        for (int k = 0; k < 10; k++) {
            roof.bring(1, 98);
        }
        roof.bring(1, 999 - roof.heap(1, 2));
        return roof;
    }

    private static void nothingChanges(Edges edges) {
        edges.ofTerms("nothing changes then.");
        edges.leaves("write BAD", RefusalEdges::busy, roof -> roof.write(127), BAD);
        edges.leaves("write FULL", RefusalEdges::busyAndFull, roof -> roof.write(';'), FULL);
        edges.leaves("lay NO", RefusalEdges::busy, RoofCourses::lay, NO);
        edges.leaves("course BAD", RefusalEdges::busy, roof -> roof.course(61), BAD);
        edges.leaves("course NO, no HEAP", RefusalEdges::busy, roof -> roof.course(29), NO);
        edges.leaves("course NO, too long", RefusalEdges::busy, roof -> roof.course(40), NO);
        edges.leaves("bring BAD by the HEAP", RefusalEdges::busy, roof -> roof.bring(3, 1), BAD);
        edges.leaves("bring BAD by n", RefusalEdges::busy, roof -> roof.bring(0, 0), BAD);
        edges.leaves("bring FULL", RefusalEdges::busyAndFull, roof -> roof.bring(1, 1), FULL);
        edges.leaves("heap BAD", RefusalEdges::busy, roof -> roof.heap(3, 0), BAD);
        edges.leaves("told BAD", RefusalEdges::busy, roof -> roof.told(3, 0), BAD);
        edges.leaves("told NONE", RefusalEdges::busy, roof -> roof.told(2, 6), NONE);
        edges.leaves("joint BAD", RefusalEdges::busy, roof -> roof.joint(0, -1), BAD);
        edges.leaves("joint NONE", RefusalEdges::busy, roof -> roof.joint(0, 2), NONE);
        edges.leaves("slate BAD", RefusalEdges::busy, roof -> roof.slate(0, 0, 2), BAD);
        edges.leaves("slate NONE", RefusalEdges::busy, roof -> roof.slate(0, 3, 0), NONE);
        edges.leaves("tried BAD", RefusalEdges::busy, roof -> roof.tried(30, 2), BAD);
        edges.leaves("tried NO", RefusalEdges::busy, roof -> roof.tried(40, 0), NO);
        edges.leaves("next BAD", RefusalEdges::busy, roof -> roof.next(2), BAD);
        edges.leaves("itself BAD", RefusalEdges::busy, roof -> roof.itself(0, 3), BAD);
        edges.leaves("count BAD", RefusalEdges::busy, roof -> roof.count(13), BAD);
    }

    private static void asItStands(Edges edges) {
        edges.ofTerms("All that is asked is told of all as it stands then;");
        RoofCourses roof = CourseEdges.laid("h40,20,4;h30,23,9;r100,40;", 40);
        edges.due("LAP HELD, no COURSE above", roof.told(0, 6), NONE);
        edges.due("tried", roof.tried(40, 0), NO);
        edges.due("SLATES left", roof.heap(0, 2), 2);
        roof.bring(0, 1);
        edges.due("tried, when SLATES were brought", roof.tried(40, 0), 3);
        edges.due("SLATES left then", roof.heap(0, 2), 3);
        roof.course(30);
        edges.due("LAP HELD, a COURSE above", roof.told(0, 6), 11);
        edges.due("tried, when the last is shorter", roof.tried(40, 0), NO);
        roof.undo();
        edges.due("tried, when that is undone", roof.tried(40, 0), 3);
        edges.due("LAP HELD then", roof.told(0, 6), NONE);
    }

    private static void textStays(Edges edges) {
        edges.ofTerms("LAID, THE TEXT stays.");
        RoofCourses roof = Checks.laid("h40,40,9;");
        edges.due("its letters", roof.count(12), 9);
        edges.due("laid again", roof.lay(), 1);
        roof.course(40);
        roof.bring(0, 1);
        roof.undo();
        edges.due("whatever is done", roof.count(12), 9);
        Checks.write(roof, "h30,40,9;");
        edges.due("more comes behind it", roof.lay(), 2);
        edges.due("all letters", roof.wipe(), 18);
        edges.due("wiped, the HEAPS stay", roof.count(0), 2);
    }
}
