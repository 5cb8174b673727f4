/** The edges of part 2 (COURSES) and of promise 6. */
final class CourseEdges {
    private static final int BAD = RoofCourses.BAD, NO = RoofCourses.NO, NONE = RoofCourses.NONE;

    static void all(Edges edges) {
        twentyAtMost(edges);
        noGreaterLength(edges);
        foot(edges);
        gauge(edges);
        room(edges);
        leastRoom(edges);
        ready(edges);
        noOtherWhenReady(edges);
        lapHeld(edges);
        fromTheLeft(edges);
        heapsOfItsLength(edges);
        ends(edges);
        beyondIsCut(edges);
        broken(edges);
        placesFromTheLeft(edges);
        endsByTheLeast(edges);
        brokenByTheGreatest(edges);
        greatestIsCut(edges);
        cutToOneAtLeast(edges);
        noneToCut(edges);
        noSlates(edges);
        sixtySlates(edges);
        waste(edges);
        course(edges);
        courseBad(edges);
        courseWithoutHeap(edges);
        courseTooLong(edges);
        courseWhenReady(edges);
        courseWhenTwenty(edges);
        courseThatCanNotBe(edges);
    }

    /** A roof by a text with these courses laid. */
    static RoofCourses laid(String text, int... lengths) {
        RoofCourses roof = Checks.laid(text);
        for (int l : lengths) {
            if (roof.course(l) < 1) {
                throw new IllegalArgumentException("no course " + l + " by " + text);
            }
        }
        return roof;
    }

    static RoofCourses twenty() {
        return laid("h20,50,99;r400,40;p10,1;", 20, 20, 20, 20, 20, 20, 20, 20, 20, 20, 20, 20, 20, 20, 20, 20, 20, 20,
            20, 20);
    }

    private static void twentyAtMost(Edges edges) {
        edges.ofTerms("2 COURSES are laid one above the other, 0 at the eaves, 20 at most.");
        RoofCourses roof = Checks.laid("h20,50,99;r400,40;p10,1;");
        for (int c = 0; c < 20; c++) {
            edges.due("COURSE " + c, roof.course(20), 1);
            edges.due("COURSES by then", roof.count(1), c + 1);
        }
        edges.due("the 21st", roof.course(20), NO);
        edges.due("still twenty", roof.count(1), 20);
        edges.due("0 is at the eaves", roof.told(0, 1), 0);
        edges.due("19 is the highest", roof.told(19, 1), 95);
        edges.due("20 is none", roof.told(20, 1), BAD);
        roof.up();
        edges.due("the 20th again", roof.course(20), 1);
    }

    private static void noGreaterLength(Edges edges) {
        edges.ofTerms("A COURSE is of one LENGTH, no greater than that of the one below.");
        String text = "h60,40,9;h41,40,9;h40,40,9;h39,40,9;h20,40,9;r400,40;";
        edges.due("greater by 1", laid(text, 40).course(41), NO);
        edges.due("the greatest", laid(text, 40).course(60), NO);
        edges.due("alike", laid(text, 40).course(40), 1);
        edges.due("less by 1", laid(text, 40).course(39), 1);
        edges.due("the first one may be the greatest", laid(text).course(60), 1);
        edges.due("the one below counts, not the first", laid(text, 60, 20).course(39), NO);
        RoofCourses roof = laid(text, 40, 20);
        roof.up();
        edges.due("taken up it counts no more", roof.course(40), 1);
    }

    private static void foot(Edges edges) {
        edges.ofTerms("Its FOOT is at HEIGHT 0 (the first one), else at FOOT and GAUGE of the one below together;");
        RoofCourses roof = laid("h40,40,9;h30,40,9;h20,40,9;r400,40;", 40, 30, 20);
        edges.due("FEET", roof.told(0, 1) + " " + roof.told(1, 1) + " " + roof.told(2, 1), "0 17 29");
        edges.due("of the next one", roof.count(7), 36);
        edges.due("of the first one", Checks.laid("h40,40,9;").count(7), 0);
    }

    private static void gauge(Edges edges) {
        edges.ofTerms("its GAUGE is its LENGTH less LAP, by 2, cut.");
        int[][] due = {{40, 6, 17}, {41, 6, 17}, {42, 6, 18}, {20, 10, 5}, {20, 9, 5}, {20, 1, 9}, {60, 1, 29}, {60, 10, 25},
            {21, 10, 5}};
        for (int[] row : due) {
            RoofCourses roof = laid("h" + row[0] + ",40,9;r400,40;p" + row[1] + ",4;", row[0]);
            edges.due("LENGTH " + row[0] + ", LAP " + row[1], roof.told(0, 2), row[2]);
        }
    }

    /** ROOM of a COURSE whose FOOT is the GAUGE of one of that LENGTH (LAP 6). */
    private static int roomAbove(int length, int wide, int hip) {
        String text = "h" + length + ",60,9;r400," + wide + ";i" + hip + ";";
        return laid(text, length, length).told(1, 3);
    }

    private static void room(Edges edges) {
        edges.ofTerms("Its ROOM is WIDE less H, H being HIP times FOOT by 10, cut to a whole number;");
        edges.due("HIP 0", roomAbove(40, 100, 0), 100);
        edges.due("H 0.9", roomAbove(24, 100, 1), 100);
        edges.due("H 1", roomAbove(26, 100, 1), 99);
        edges.due("H 1.7", roomAbove(40, 100, 1), 99);
        edges.due("H 5.1", roomAbove(40, 100, 3), 95);
        edges.due("H 15.3", roomAbove(40, 100, 9), 85);
        edges.due("H 9", roomAbove(26, 100, 9), 91);
        edges.due("at FOOT 0", laid("h40,60,9;r400,100;i9;", 40).told(0, 3), 100);
        RoofCourses third = laid("h40,60,9;r400,100;i3;", 40, 40, 40);
        edges.due("H 10.2, not 5 and 5", third.told(2, 3), 90);
        RoofCourses fourth = laid("h40,60,9;r400,100;i7;", 40, 40, 40);
        edges.due("H 23.8, not 11 and 11", fourth.told(2, 3), 77);
    }

    private static void leastRoom(Edges edges) {
        edges.ofTerms("20 at least.");
        edges.due("21", roomAbove(50, 40, 9), 21);
        edges.due("just 20", roomAbove(52, 40, 9), 20);
        edges.due("20 where it would be 19", roomAbove(54, 40, 9), 20);
        RoofCourses high = laid("h60,20,99;r400,40;p1,1;i9;", 60, 60, 60, 60);
        edges.due("20 where it would be less than 0", high.told(3, 3), 20);
        edges.due("one SLATE of 20 fills it", Checks.told(high, 3), "60 87 29 20 1 0 -4 0");
    }

    private static void ready(Edges edges) {
        edges.ofTerms("The ROOF is READY, when FOOT and GAUGE of the last COURSE together are HIGH or more:");
        int[][] due = {{33, 1}, {34, 1}, {35, 0}};
        for (int[] row : due) {
            RoofCourses roof = laid("h40,40,9;r" + row[0] + ",40;", 40, 40);
            edges.due("34 of HIGH " + row[0], roof.count(8), row[1]);
        }
        edges.due("no COURSE", Checks.laid("h40,40,9;r20,40;").count(8), 0);
        edges.due("by one COURSE", laid("h60,40,9;r20,40;", 60).count(8), 1);
        RoofCourses up = laid("h40,40,9;r34,40;", 40, 40);
        up.up();
        edges.due("no more, when it is taken up", up.count(8), 0);
    }

    private static RoofCourses readyRoof() {
        return laid("h40,40,9;h30,40,9;r34,40;", 40, 40);
    }

    private static void noOtherWhenReady(Edges edges) {
        edges.ofTerms("no other is laid then.");
        edges.leaves("another", CourseEdges::readyRoof, roof -> roof.course(40), NO);
        edges.leaves("a shorter one", CourseEdges::readyRoof, roof -> roof.course(30), NO);
        edges.due("another, where 1 is wanting", laid("h40,40,9;h30,40,9;r35,40;", 40, 40).course(40), 1);
    }

    private static void lapHeld(Edges edges) {
        edges.ofTerms("LAP HELD by a COURSE: its LENGTH less its GAUGE less that of the one above it.");
        RoofCourses roof = laid("h41,40,9;h40,40,9;h20,40,9;r400,40;", 41, 41, 40, 20);
        edges.due("odd LENGTHS", roof.told(0, 6), 7);
        edges.due("by an even one above", roof.told(1, 6), 7);
        edges.due("by a short one above", roof.told(2, 6), 16);
        edges.due("none above", roof.told(3, 6), NONE);
    }

    private static void fromTheLeft(Edges edges) {
        edges.ofTerms("A COURSE is laid from the left, from PLACE 0 on.");
        RoofCourses roof = laid("h40,30,1;h40,20,1;h40,15,9;r100,70;", 40);
        edges.due("SLATES", Checks.slates(roof, 0), "0:30 1:20 2:15 2:5");
        edges.due("JOINTS", Checks.joints(roof, 0), "30 50 65");
    }

    private static void heapsOfItsLength(Edges edges) {
        edges.ofTerms("At a PLACE p, from HEAPS of its LENGTH that have SLATES left:");
        RoofCourses roof = laid("h41,35,9;h40,30,1;h40,20,9;h39,35,9;r100,70;", 40);
        edges.due("the last one of a HEAP is taken", Checks.slates(roof, 0), "1:30 2:20 2:20");
        edges.due("it has none left", Checks.heap(roof, 1), "40 30 0 1");
        roof.course(40);
        edges.due("one with none left is not taken", Checks.slates(roof, 1), "2:20 2:20 2:20 2:10");
        edges.due("other LENGTHS are not touched", roof.heap(0, 3) + " " + roof.heap(3, 3), "0 0");
        RoofCourses end = laid("h40,60,9;h40,40,1;r100,40;", 40, 40);
        edges.due("nor does it END a COURSE", Checks.slates(end, 0) + ", " + Checks.slates(end, 1), "1:40, 0:40");
    }

    private static void ends(Edges edges) {
        edges.ofTerms("one of BREADTH b ENDS it, if p and b together are its ROOM or more");
        edges.due("just its ROOM", Checks.slates(laid("h40,40,9;r100,40;", 40), 0), "0:40");
        edges.due("1 more", Checks.slates(laid("h40,41,9;r100,40;", 40), 0), "0:40");
        edges.due("1 less", Checks.slates(laid("h40,39,9;r100,40;", 40), 0), "0:39 0:1");
        edges.due("just its ROOM, from p on", Checks.slates(laid("h40,20,9;r100,40;", 40), 0), "0:20 0:20");
        edges.due("1 less, from p on", Checks.slates(laid("h40,20,9;r100,41;", 40), 0), "0:20 0:20 0:1");
        edges.due("even near a JOINT below", Checks.slates(laid("h40,20,9;h30,21,9;r100,41;i1;", 40, 30), 1), "1:16 1:20 1:4");
    }

    private static void beyondIsCut(Edges edges) {
        edges.ofTerms("(what is beyond is cut away; it has no JOINT);");
        RoofCourses one = laid("h40,60,9;r100,40;", 40);
        edges.due("one SLATE", Checks.slates(one, 0), "0:40");
        edges.due("cut by 20", one.told(0, 5) + " " + one.told(0, 7), "800 1");
        edges.due("no JOINT", one.joint(0, 0), NONE);
        RoofCourses uncut = laid("h40,40,9;r100,40;", 40);
        edges.due("nothing beyond", uncut.told(0, 5) + " " + uncut.told(0, 7), "0 0");
        RoofCourses above = laid("h40,40,9;h30,39,9;r100,40;", 40, 30);
        edges.due("the end below breaks none", Checks.slates(above, 1), "1:39 1:1");
    }

    /** The second course of 30s above a JOINT at 20 alone. */
    private static String above20(int breaking, String breadths) {
        StringBuilder text = new StringBuilder("h40,20,9;");
        for (String b : breadths.split(" ")) {
            text.append("h30,").append(b).append(",9;");
        }
        return Checks.slates(laid(text + "r100,40;p6," + breaking + ";", 40, 30), 1);
    }

    private static void broken(Edges edges) {
        edges.ofTerms("else it has a JOINT at p and b together, BROKEN, if that is J or more from each JOINT of the COURSE below");
        edges.due("4 to the right", above20(4, "24"), "1:24 1:16");
        edges.due("3 to the right", above20(4, "23"), "1:16 1:23 1:1");
        edges.due("4 to the left", above20(4, "16"), "1:16 1:16 1:8");
        edges.due("3 to the left", above20(4, "17"), "1:16 1:17 1:7");
        edges.due("J 1: the same PLACE", above20(1, "20"), "1:19 1:20 1:1");
        edges.due("J 1: 1 to the right", above20(1, "21"), "1:21 1:19");
        edges.due("J 1: 1 to the left", above20(1, "19"), "1:19 1:19 1:2");
        edges.due("J 9: 9 to the right", above20(9, "29"), "1:29 1:11");
        edges.due("J 9: 8 to the right", above20(9, "28"), "1:11 1:28 1:1");
        edges.due("J 9: 9 to the left", above20(9, "28 11"), "2:11 1:28 2:1");
        edges.due("J 9: 8 to the left", above20(9, "28 12"), "1:11 1:28 2:1");
        edges.due("from p on, not from 0", above20(4, "12"), "1:12 1:12 1:12 1:4");
        RoofCourses each = laid("h40,14,9;h30,25,9;r100,50;", 40, 30);
        edges.due("from the second JOINT, too", Checks.joints(each, 0) + ", " + Checks.joints(each, 1), "14 28 42, 24 49");
        RoofCourses first = laid("h40,14,9;h30,25,9;r100,50;", 40);
        edges.due("at the eaves all are", Checks.slates(first, 0), "0:14 0:14 0:14 0:8");
        RoofCourses third = laid("h40,20,9;h30,24,9;h20,20,9;r100,40;", 40, 30, 20);
        edges.due("of the one below alone", Checks.slates(third, 2), "2:20 2:20");
    }

    private static void placesFromTheLeft(Edges edges) {
        edges.ofTerms("(PLACES count from the left in all).");
        RoofCourses roof = laid("h40,20,9;r100,60;i9;", 40, 40);
        edges.due("ROOMS", roof.told(0, 3) + " " + roof.told(1, 3), "60 45");
        edges.due("JOINTS", Checks.joints(roof, 0) + ", " + Checks.joints(roof, 1), "20 40, 16 36");
    }

    private static void endsByTheLeast(Edges edges) {
        edges.ofTerms("Of those that END it the least b is taken, if there is one;");
        RoofCourses roof = laid("h40,60,9;h40,41,9;h40,40,9;h40,39,9;r100,40;", 40);
        edges.due("the least of three", Checks.slates(roof, 0), "2:40");
        RoofCourses two = laid("h40,60,9;h40,41,9;h40,39,9;r100,40;", 40);
        edges.due("cut, though another needs no cut", Checks.slates(two, 0), "1:40");
        RoofCourses one = laid("h40,60,9;h40,20,9;r100,40;", 40);
        edges.due("ahead of those that do not END it", Checks.slates(one, 0), "0:40");
    }

    private static void brokenByTheGreatest(Edges edges) {
        edges.ofTerms("else of those whose JOINT is BROKEN the greatest b;");
        edges.due("the greatest", above20(4, "25 24 15"), "1:25 3:15");
        edges.due("not the greatest of all", above20(4, "23 16"), "2:16 1:23 2:1");
        edges.due("the only one, being the least", above20(4, "23 22 21 20 19 18 16"), "7:16 1:23 7:1");
        edges.due("ahead of cutting to a greater one", above20(4, "23 10"), "2:10 1:23 2:7");
    }

    private static void greatestIsCut(Edges edges) {
        edges.ofTerms("else the greatest b of all is cut to the greatest one below it");
        edges.due("the greatest b", above20(4, "23 22 17"), "1:16 1:23 3:1");
        edges.due("to 1 less", above20(4, "17"), "1:16 1:17 1:7");
        edges.due("by 7", above20(4, "23"), "1:16 1:23 1:1");
        RoofCourses few = laid("h40,20,9;h30,23,1;h30,22,9;r100,40;", 40, 30);
        edges.due("of those that are left", Checks.slates(few, 1), "1:16 2:22 2:2");
        edges.due("the cut one is used up", Checks.heap(few, 1), "30 23 0 1");
    }

    private static void cutToOneAtLeast(Edges edges) {
        edges.ofTerms("(1 at least) by which its JOINT is BROKEN;");
        RoofCourses one = laid("h40,28,9;h30,18,9;r100,60;p6,9;", 40, 30);
        edges.due("cut to 1: 18 and 19 are BROKEN, 20 to 36 are not", Checks.slates(one, 1), "1:18 1:1 1:18 1:10 1:13");
        RoofCourses none = laid("h40,19,9;h30,17,9;r100,40;p6,9;", 40);
        edges.due("only by 0: 10 is BROKEN, 11 to 27 are not", none.course(30), NO);
        RoofCourses some = laid("h40,19,9;h30,18,9;r100,40;p6,9;", 40, 30);
        edges.due("by 1 more it is laid", Checks.slates(some, 1), "1:10 1:18 1:12");
    }

    private static RoofCourses tooNear() {
        return laid("h40,19,9;h30,17,9;r100,40;p6,9;", 40);
    }

    private static void noneToCut(Edges edges) {
        edges.ofTerms("if there is none such,");
        edges.leaves("none is BROKEN", CourseEdges::tooNear, roof -> roof.course(30), NO);
        edges.due("by another LENGTH it is", tooNear().course(40), 3);
    }

    private static void noSlates(Edges edges) {
        edges.ofTerms("or there are no SLATES,");
        edges.leaves("none from the beginning on", () -> laid("h40,40,1;r100,40;", 40), roof -> roof.course(40), NO);
        edges.leaves("1 too few", () -> laid("h40,20,6;r100,60;", 40), roof -> roof.course(40), NO);
        edges.leaves("1 too few at the eaves", () -> laid("h40,20,2;h30,60,9;r100,60;"), roof -> roof.course(40), NO);
        edges.due("just enough at the eaves", laid("h40,20,3;r100,60;").course(40), 3);
        edges.due("just enough", laid("h40,20,7;r100,60;", 40).course(40), 4);
    }

    /**
     * More than 60 can't come about: behind a SLATE that is cut for its JOINT no PLACE up to its whole BREADTH is
     * BROKEN, so the next one's JOINT lies beyond, and the two cover 11 or more: in a ROOM of 240 there are 43 at
     * most. So what can be tested is that these are laid.
     */
    private static void sixtySlates(Edges edges) {
        edges.ofTerms("or it would have more than 60 SLATES, the COURSE can not be laid.");
        RoofCourses roof = laid("h41,11,99;h31,10,99;r400,240;p10,5;", 41, 41);
        edges.due("the most that there can be", roof.course(31), 43);
        edges.due("its SLATES", Checks.slates(roof, 2), "1:1 1:10 ".repeat(21) + "1:9");
        edges.due("its last one", roof.slate(2, 42, 1) + " " + roof.slate(2, 43, 1), "9 -4");
        edges.due("its last JOINT", roof.joint(2, 41) + " " + roof.joint(2, 42), "231 -4");
    }

    private static void waste(Edges edges) {
        edges.ofTerms("WASTE of a COURSE: what is cut away of BREADTHS, times its LENGTH.");
        edges.due("nothing", laid("h40,20,9;r100,40;", 40).told(0, 5), 0);
        edges.due("1 at the end", laid("h40,41,9;r100,40;", 40).told(0, 5), 40);
        RoofCourses both = laid("h40,20,9;h30,23,9;r100,40;", 40, 30);
        edges.due("7 for a JOINT and 22 at the end", both.told(1, 5), 29 * 30);
        RoofCourses most = laid("h60,60,9;r400,40;p1,1;i9;", 60, 60);
        edges.due("40 of 60", most.told(1, 5), 2400);
    }

    private static void course(Edges edges) {
        edges.of("Promise 6", "A COURSE of LENGTH l (20 to 60) is laid: how many SLATES it has.");
        edges.due("20", Checks.laid("h20,40,9;r100,40;").course(20), 1);
        edges.due("60", Checks.laid("h60,15,9;r100,40;").course(60), 3);
    }

    private static RoofCourses some() {
        return laid("h60,40,9;h50,40,9;h20,40,9;r400,40;", 50);
    }

    private static void courseBad(Edges edges) {
        edges.of("Promise 6", "BAD;");
        for (int l : new int[] {19, 61, 0, -1, 20 - 65536, Integer.MIN_VALUE, Integer.MAX_VALUE}) {
            edges.leaves("LENGTH " + l, CourseEdges::some, roof -> roof.course(l), BAD);
        }
        edges.leaves("ahead of NO", CourseEdges::readyRoof, roof -> roof.course(61), BAD);
    }

    private static void courseWithoutHeap(Edges edges) {
        edges.of("Promise 6", "NO: there is no HEAP of that LENGTH,");
        for (int l : new int[] {49, 21, 40}) {
            edges.leaves("LENGTH " + l, CourseEdges::some, roof -> roof.course(l), NO);
        }
        edges.leaves("20, with none", () -> laid("h21,40,9;r100,40;"), roof -> roof.course(20), NO);
        edges.leaves("60, with none", () -> laid("h59,40,9;r100,40;"), roof -> roof.course(60), NO);
    }

    private static void courseTooLong(Edges edges) {
        edges.of("Promise 6", "l is greater than that of the last COURSE,");
        edges.leaves("greater by 10", CourseEdges::some, roof -> roof.course(60), NO);
        edges.leaves("greater by 1", () -> laid("h31,40,9;h30,40,9;r100,40;", 30), roof -> roof.course(31), NO);
        edges.due("alike", some().course(50), 1);
    }

    private static void courseWhenReady(Edges edges) {
        edges.of("Promise 6", "the ROOF is READY,");
        edges.leaves("READY", CourseEdges::readyRoof, roof -> roof.course(40), NO);
        RoofCourses roof = readyRoof();
        roof.up();
        edges.due("not READY any more", roof.course(30), 1);
    }

    private static void courseWhenTwenty(Edges edges) {
        edges.of("Promise 6", "20 COURSES are laid,");
        edges.leaves("twenty", CourseEdges::twenty, roof -> roof.course(20), NO);
        RoofCourses roof = twenty();
        roof.undo();
        edges.due("nineteen", roof.course(20), 1);
    }

    private static void courseThatCanNotBe(Edges edges) {
        edges.of("Promise 6", "or it can not be laid.");
        edges.leaves("too near", CourseEdges::tooNear, roof -> roof.course(30), NO);
        edges.leaves("no SLATES", () -> laid("h40,20,2;r100,40;", 40), roof -> roof.course(40), NO);
        RoofCourses roof = laid("h40,20,2;r100,60;");
        edges.due("1 too few", roof.course(40), NO);
        roof.bring(0, 1);
        edges.due("1 brought", roof.course(40), 3);
    }
}
