/** The edges of NEXT and BY ITSELF (part 3) and of promises 14 to 16. */
final class BestEdges {
    private static final int BAD = RoofCourses.BAD, NO = RoofCourses.NO, NONE = RoofCourses.NONE;
    private static final int FAR = Integer.MAX_VALUE, FAR_BELOW = Integer.MIN_VALUE;
    private static final String THREE_LENGTHS = "h60,40,9;h50,45,9;h30,40,1;r400,40;";

    static void all(Edges edges) {
        lengthsThatCanBe(edges);
        leastWasteByGauge(edges);
        ofSeveralTheGreatest(edges);
        greatest(edges);
        byItself(edges);
        untilReady(edges);
        untilTwenty(edges);
        untilThereIsNone(edges);
        whatIsTold(edges);
        tried(edges);
        triedBad(edges);
        triedNo(edges);
        next(edges);
        nextBad(edges);
        nextNone(edges);
        itself(edges);
        itselfBad(edges);
    }

    private static RoofCourses ready() {
        return CourseEdges.laid("h40,40,9;h30,40,9;r34,40;", 40, 40);
    }

    private static String both(RoofCourses roof) {
        return roof.next(0) + " " + roof.next(1);
    }

    private static String byItself(RoofCourses roof, int how) {
        return roof.itself(how, 0) + " " + roof.itself(how, 1) + " " + roof.itself(how, 2);
    }

    private static void lengthsThatCanBe(Edges edges) {
        edges.ofTerms("3 NEXT: of LENGTHS of HEAPS, no greater than that of the last COURSE, those by which a COURSE can be "
            + "laid now:");
        edges.due("all, where there is no COURSE", both(Checks.laid(THREE_LENGTHS)), "60 60");
        edges.due("none greater than the last, like ones are", both(CourseEdges.laid(THREE_LENGTHS, 50)), "30 50");
        edges.due("none at all", both(CourseEdges.laid(THREE_LENGTHS, 50, 30)), NONE + " " + NONE);
        edges.due("too few SLATES", both(Checks.laid("h60,20,1;h50,45,9;r400,40;")), "50 50");
        edges.due("just enough", both(Checks.laid("h60,20,2;h50,45,9;r400,40;")), "60 60");
        RoofCourses near = CourseEdges.laid("h40,19,3;h30,17,9;h20,50,9;r100,40;p6,9;", 40);
        edges.due("no JOINT BROKEN", both(near), "20 20");
        near.bring(0, 3);
        edges.due("brought", both(near), "20 40");
    }

    private static void leastWasteByGauge(Edges edges) {
        edges.ofTerms("that of least WASTE by its GAUGE (WASTES of two compared, each times the GAUGE of the other one),");
        edges.due("300 by 27, 80 by 7", Checks.laid("h60,45,5;h20,44,5;r100,40;").next(0), 60);
        edges.due("360 by 27, 80 by 7", Checks.laid("h60,46,5;h20,44,5;r100,40;").next(0), 20);
        edges.due("480 by 27, 120 by 7, cut they were alike", Checks.laid("h60,48,5;h20,46,5;r100,40;").next(0), 20);
        edges.due("by GAUGE, not by LENGTH", Checks.laid("h60,45,5;h20,44,5;r100,40;p10,1;").next(0), 60);
        edges.due("none by any but one", Checks.laid("h60,41,5;h40,40,5;h20,41,5;r100,40;").next(0), 40);
        edges.due("less WASTE alone does not do", Checks.laid("h60,42,5;h20,44,5;r100,40;").next(0), 60);
    }

    private static void ofSeveralTheGreatest(Edges edges) {
        edges.ofTerms("of several the greatest.");
        edges.due("no WASTE by any", Checks.laid("h20,40,5;h30,40,5;h25,40,5;r100,40;").next(0), 30);
        edges.due("600 by 25, 360 by 15", Checks.laid("h60,50,5;h40,49,5;r100,40;p10,1;").next(0), 60);
        edges.due("1 less in BREADTH", Checks.laid("h60,50,5;h40,48,5;r100,40;p10,1;").next(0), 40);
        edges.due("the last two", Checks.laid("h60,50,5;h30,40,5;h25,40,5;r100,40;").next(0), 30);
    }

    private static void greatest(Edges edges) {
        edges.ofTerms("GREATEST: the greatest of them.");
        edges.due("whatever the WASTE", Checks.laid("h60,60,5;h20,40,5;r100,40;").next(1), 60);
        edges.due("of them alone", Checks.laid("h60,20,1;h59,60,5;h20,40,5;r100,40;").next(1), 59);
        edges.due("the only one", Checks.laid("h20,40,5;r100,40;").next(1), 20);
    }

    private static void byItself(Edges edges) {
        edges.ofTerms("BY ITSELF the ROOF is laid by NEXT (0) or GREATEST (1), COURSE by COURSE,");
        RoofCourses roof = Checks.laid("h60,45,99;h20,40,99;r100,40;");
        edges.due("by NEXT", byItself(roof, 0), "15 0 1");
        edges.due("by GREATEST", byItself(roof, 1), "4 1200 1");
        for (int how = 0; how <= 1; how++) {
            RoofCourses first = new RoofCourses();
            String told = byItself(first, how);
            int laid = 0;
            for (int l = first.next(how); l > 0 && laid < 21; l = first.next(how)) {
                first.course(l);
                laid++;
            }
            edges.due("as by next() and course(), " + how, told, laid + " " + first.count(9) + " " + first.count(8));
        }
        edges.leaves("it changes nothing", () -> CourseEdges.laid(THREE_LENGTHS, 60), stays -> stays.itself(0, 0), 9);
    }

    private static void untilReady(Edges edges) {
        edges.ofTerms("until it is READY,");
        for (int how = 0; how <= 1; how++) {
            edges.due("34 of 34", byItself(Checks.laid("h40,40,99;r34,40;"), how), "2 0 1");
            edges.due("34 of 35", byItself(Checks.laid("h40,40,99;r35,40;"), how), "3 0 1");
            edges.due("READY already", byItself(ready(), how), "0 0 1");
        }
    }

    private static void untilTwenty(Edges edges) {
        edges.ofTerms("20 COURSES are laid, or");
        String text = "h20,50,99;p10,1;";
        for (int how = 0; how <= 1; how++) {
            edges.due("READY by the 19th", byItself(Checks.laid(text + "r95,40;"), how), "19 3800 1");
            edges.due("READY by the 20th", byItself(Checks.laid(text + "r100,40;"), how), "20 4000 1");
            edges.due("not READY by the 20th", byItself(Checks.laid(text + "r101,40;"), how), "20 4000 0");
            edges.due("from the third on", byItself(CourseEdges.laid(text + "r400,40;", 20, 20), how), "18 3600 0");
            RoofCourses twenty = CourseEdges.twenty();
            edges.due("twenty already", byItself(twenty, how), "0 0 0");
            twenty.up();
            edges.due("nineteen already", byItself(twenty, how), "1 200 0");
        }
    }

    private static void untilThereIsNone(Edges edges) {
        edges.ofTerms("there is none:");
        for (int how = 0; how <= 1; how++) {
            edges.due("none at all", byItself(Checks.laid("h60,20,1;r400,40;"), how), "0 0 0");
            edges.due("one", byItself(Checks.laid("h60,20,2;r400,40;"), how), "1 0 0");
            edges.due("the SLATES of each LENGTH", byItself(Checks.laid("h60,45,2;h20,44,3;r400,40;"), how), "5 840 0");
        }
        RoofCourses bare = CourseEdges.laid("h60,40,1;r400,40;", 60);
        edges.due("no SLATE left", byItself(bare, 0), "0 0 0");
        edges.due("shorter by NEXT, then none so long", byItself(Checks.laid("h60,45,9;h20,40,1;r400,40;"), 0), "1 0 0");
        edges.due("by GREATEST all of them", byItself(Checks.laid("h60,45,9;h20,40,1;r400,40;"), 1), "10 2700 0");
    }

    private static void whatIsTold(Edges edges) {
        edges.ofTerms("how many COURSES more, WASTE of these, 1 if it is READY then.");
        RoofCourses roof = CourseEdges.laid("h40,45,9;r51,40;", 40);
        edges.due("WASTE of the one that is laid", roof.count(9), 200);
        edges.due("of two more, and READY", byItself(roof, 0), "2 400 1");
        edges.due("and not READY", byItself(CourseEdges.laid("h40,45,2;r51,40;", 40), 1), "1 200 0");
    }

    private static void tried(Edges edges) {
        edges.of("Promise 14", "A COURSE of LENGTH l (20 to 60), were it laid now: SLATES (what = 0), WASTE (1).");
        RoofCourses roof = Checks.laid("h60,15,9;h20,41,9;r100,40;");
        edges.due("60", roof.tried(60, 0) + " " + roof.tried(60, 1), "3 300");
        edges.due("20", roof.tried(20, 0) + " " + roof.tried(20, 1), "1 20");
        RoofCourses above = CourseEdges.laid("h40,20,9;h30,23,9;r100,40;", 40);
        edges.due("cut for a JOINT", above.tried(30, 0) + " " + above.tried(30, 1), "3 870");
        edges.leaves("it changes nothing", () -> CourseEdges.laid("h40,20,9;h30,23,9;r100,40;", 40),
            stays -> stays.tried(30, 0), 3);
        above.tried(40, 0);
        edges.due("what is laid behind it", above.course(30), 3);
        edges.due("is as it was tried", Checks.slates(above, 1), "1:16 1:23 1:1");
    }

    private static void triedBad(Edges edges) {
        edges.of("Promise 14", "BAD;");
        for (int l : new int[] {19, 61, 0, -1, FAR, FAR_BELOW}) {
            edges.leaves("LENGTH " + l, () -> CourseEdges.laid(THREE_LENGTHS, 60), roof -> roof.tried(l, 0), BAD);
        }
        for (int what : new int[] {-1, 2, FAR, FAR_BELOW}) {
            edges.leaves("what " + what, () -> CourseEdges.laid(THREE_LENGTHS, 60), roof -> roof.tried(50, what), BAD);
            edges.leaves("ahead of NO, what " + what, BestEdges::ready, roof -> roof.tried(40, what), BAD);
        }
        edges.leaves("ahead of NO", BestEdges::ready, roof -> roof.tried(61, 0), BAD);
    }

    private static void triedNo(Edges edges) {
        edges.of("Promise 14", "NO: as by course().");
        for (int what = 0; what <= 1; what++) {
            int asked = what;
            edges.leaves("no HEAP of that LENGTH", RoofCourses::new, roof -> roof.tried(39, asked), NO);
            edges.leaves("greater than the last", () -> CourseEdges.laid(THREE_LENGTHS, 50), roof -> roof.tried(60, asked), NO);
            edges.leaves("READY", BestEdges::ready, roof -> roof.tried(40, asked), NO);
            edges.leaves("twenty", CourseEdges::twenty, roof -> roof.tried(20, asked), NO);
            edges.leaves("too few SLATES", () -> Checks.laid("h40,20,1;r100,40;"), roof -> roof.tried(40, asked), NO);
            edges.leaves("no JOINT BROKEN", () -> CourseEdges.laid("h40,19,9;h30,17,9;r100,40;p6,9;", 40),
                roof -> roof.tried(30, asked), NO);
        }
    }

    private static void next(Edges edges) {
        edges.of("Promise 15", "NEXT (how = 0), GREATEST (1): the LENGTH.");
        edges.due("at first", both(new RoofCourses()), "24 40");
        edges.due("60", both(Checks.laid("h60,40,9;r100,40;")), "60 60");
        edges.due("20", both(Checks.laid("h20,40,9;r100,40;")), "20 20");
        edges.leaves("it changes nothing", () -> CourseEdges.laid(THREE_LENGTHS, 50), roof -> roof.next(0), 30);
    }

    private static void nextBad(Edges edges) {
        edges.of("Promise 15", "BAD;");
        for (int how : new int[] {-1, 2, FAR, FAR_BELOW}) {
            edges.leaves("how " + how, RoofCourses::new, roof -> roof.next(how), BAD);
            edges.leaves("ahead of NONE, how " + how, BestEdges::ready, roof -> roof.next(how), BAD);
        }
    }

    private static void nextNone(Edges edges) {
        edges.of("Promise 15", "NONE (also where the ROOF is READY, or 20 COURSES are laid).");
        for (int how = 0; how <= 1; how++) {
            int asked = how;
            edges.leaves("READY", BestEdges::ready, roof -> roof.next(asked), NONE);
            edges.leaves("twenty", CourseEdges::twenty, roof -> roof.next(asked), NONE);
            edges.leaves("no SLATES", () -> CourseEdges.laid("h60,40,1;r400,40;", 60), roof -> roof.next(asked), NONE);
            edges.leaves("too few", () -> Checks.laid("h60,20,1;r400,40;"), roof -> roof.next(asked), NONE);
        }
        RoofCourses nineteen = CourseEdges.twenty();
        nineteen.up();
        edges.due("nineteen", both(nineteen), "20 20");
        RoofCourses notReady = ready();
        notReady.up();
        edges.due("not READY any more", both(notReady), "40 40");
    }

    private static void itself(Edges edges) {
        edges.of("Promise 16", "BY ITSELF (how as by next()): COURSES more (what = 0), WASTE of these (1), "
            + "1 if it is READY then, else 0 (2).");
        edges.due("at first, by NEXT", byItself(new RoofCourses(), 0), "11 1248 0");
        edges.due("at first, by GREATEST", byItself(new RoofCourses(), 1), "7 2080 1");
        for (int how = 0; how <= 1; how++) {
            for (int what = 0; what <= 2; what++) {
                int asked = what;
                int by = how;
                int due = new int[] {0, 0, 1}[what];
                edges.leaves("READY, how " + how + ", what " + what, BestEdges::ready, roof -> roof.itself(by, asked), due);
            }
        }
    }

    private static void itselfBad(Edges edges) {
        edges.of("Promise 16", "BAD.");
        for (int how : new int[] {-1, 2, FAR, FAR_BELOW}) {
            edges.leaves("how " + how, RoofCourses::new, roof -> roof.itself(how, 0), BAD);
        }
        for (int what : new int[] {-1, 3, FAR, FAR_BELOW}) {
            edges.leaves("what " + what, RoofCourses::new, roof -> roof.itself(0, what), BAD);
            edges.leaves("what " + what + ", READY", BestEdges::ready, roof -> roof.itself(1, what), BAD);
        }
    }
}
