/** The edges of part 1 (SLATES, THE TEXT) and of promises 1 to 5. */
final class TextEdges {
    private static final int BAD = RoofCourses.BAD, NO = RoofCourses.NO;
    private static final int FULL = RoofCourses.FULL, NONE = RoofCourses.NONE;
    private static final String EIGHT =
        "h60,10,1;h60,60,1;h50,10,1;h50,60,1;h40,10,1;h40,60,1;h30,10,1;h20,10,1;";
    private static final String TEN_TIMES_99 = "h40,30,99;".repeat(10);

    static void all(Edges edges) {
        lengths(edges);
        breadths(edges);
        heaps(edges);
        eightHeapsInUse(edges);
        high(edges);
        wide(edges);
        letters(edges);
        items(edges);
        figures(edges);
        slatesAtOnce(edges);
        slatesOfAHeap(edges);
        roof(edges);
        lap(edges);
        breaking(edges);
        lapAndBreakWithout(edges);
        hip(edges);
        hipWithout(edges);
        faultPlace(edges);
        faultByHeaps(edges);
        faultBySlates(edges);
        laid(edges);
        laidAtFirst(edges);
        laidWithoutCourse(edges);
        numbering(edges);
        newObject(edges);
        write(edges);
        writeBad(edges);
        writeFull(edges);
        wipe(edges);
        fault(edges);
        faultNone(edges);
        lay(edges);
        fewerHeapsThanBefore(edges);
        layNo(edges);
    }

    /** Of a number in an item: the two that are taken at the ends, and the two next to them that are not. */
    private static void range(Edges edges, String ahead, int least, int most, String behind) {
        edges.due(ahead + least, Checks.fault(ahead + least + behind), NONE);
        edges.due(ahead + most, Checks.fault(ahead + most + behind), NONE);
        edges.due(ahead + (most + 1), Checks.fault(ahead + (most + 1) + behind), 0);
        if (least > 0) {
            edges.due(ahead + (least - 1), Checks.fault(ahead + (least - 1) + behind), 0);
        }
    }

    private static void lengths(Edges edges) {
        edges.of("What it is", "1 SLATES are of a LENGTH (20 to 60)");
        range(edges, "h", 20, 60, ",30,9;");
        edges.due("the least is laid", Checks.laid("h20,30,9;").heap(0, 0), 20);
        edges.due("the greatest is laid", Checks.laid("h60,30,9;").heap(0, 0), 60);
    }

    private static void breadths(Edges edges) {
        edges.of("What it is", "and a BREADTH (10 to 60)");
        range(edges, "h40,", 10, 60, ",9;");
        edges.due("the least is laid", Checks.laid("h40,10,9;").heap(0, 1), 10);
        edges.due("the greatest is laid", Checks.laid("h40,60,9;").heap(0, 1), 60);
    }

    private static void heaps(Edges edges) {
        edges.of("What it is", "in HEAPS (8 at most, unlike in one of both).");
        edges.due("eight", Checks.laid(EIGHT).count(0), 8);
        edges.due("the last of eight", Checks.heap(Checks.laid(EIGHT), 7), "20 10 1 0");
        edges.due("a ninth", Checks.fault(EIGHT + "h21,10,1;"), EIGHT.length());
        edges.due("unlike in LENGTH alone", Checks.laid("h40,30,9;h41,30,9;").count(0), 2);
        edges.due("unlike in BREADTH alone", Checks.laid("h40,30,9;h40,31,9;").count(0), 2);
        edges.due("alike in both", Checks.laid("h40,30,9;h40,30,9;").count(0), 1);
        edges.due("LENGTH and BREADTH the other way round", Checks.laid("h40,30,9;h30,40,9;").count(0), 2);
    }

    private static void eightHeapsInUse(Edges edges) {
        edges.of("What it is", "in HEAPS (8 at most, unlike in one of both).");
        RoofCourses eight = Checks.laid("h60,40,1;h50,40,1;h40,40,1;h30,40,1;h26,40,1;h24,40,1;h22,40,1;h20,40,2;r400,40;i0;");
        edges.due("NEXT and GREATEST of eight", eight.next(0) + " " + eight.next(1), "60 60");
        int[] lengths = {60, 50, 40, 30, 26, 24, 22, 20, 20};
        for (int l : lengths) {
            edges.due("COURSE of " + l, eight.course(l), 1);
        }
        edges.due("no SLATE left", eight.count(10), 0);
        edges.due("none can be laid", eight.course(20), NO);
        edges.due("none is NEXT", eight.next(0), NONE);
        eight.undo();
        edges.due("the eighth is NEXT", eight.next(1), 20);
        RoofCourses alike = Checks.laid("h60,17,9;h60,16,9;h60,15,9;h60,14,9;h60,13,9;h60,12,9;h60,11,9;h60,10,9;r400,40;");
        edges.due("all of one LENGTH", alike.course(60) + " " + Checks.slates(alike, 0), "3 0:17 0:17 7:6");
        edges.due("none BROKEN but one", alike.course(60) + " " + Checks.slates(alike, 1), "3 4:13 0:17 7:10");
        edges.due("NEXT of one LENGTH", alike.next(0) + " " + alike.next(1), "60 60");
        RoofCourses none = Checks.laid("h60,17,9;h60,16,9;h60,15,9;h60,14,9;h50,13,9;h50,12,9;h50,11,9;h50,10,9;r400,60;p6,9;");
        none.course(60);
        edges.due("none BROKEN of the last", none.course(50), NO);
    }

    private static void fewerHeapsThanBefore(Edges edges) {
        edges.of("Promise 5", "LAID: how many HEAPS.");
        RoofCourses roof = Checks.laid(EIGHT);
        roof.wipe();
        Checks.write(roof, "h60,10,1;h55,20,3;r100,60;");
        edges.due("two", roof.lay(), 2);
        for (int l : new int[] {50, 40, 30, 20}) {
            edges.due("no HEAP of " + l + " any more", roof.course(l), NO);
        }
        edges.due("no SLATES of those before", roof.course(60), NO);
        edges.due("NEXT of the two alone", roof.next(0) + " " + roof.next(1), "55 55");
        roof.course(55);
        edges.due("none is NEXT", roof.next(0) + " " + roof.next(1), "-4 -4");
    }

    private static void high(Edges edges) {
        edges.ofTerms("The ROOF is HIGH (20 to 400)");
        range(edges, "r", 20, 400, ",120;");
        edges.due("the least is laid", Checks.laid("h40,30,9;r20,120;").count(2), 20);
        edges.due("the greatest is laid", Checks.laid("h40,30,9;r400,120;").count(2), 400);
    }

    private static void wide(Edges edges) {
        edges.ofTerms("and WIDE (40 to 240) at the eaves.");
        range(edges, "r100,", 40, 240, ";");
        RoofCourses narrow = Checks.laid("h40,60,9;r100,40;");
        edges.due("the least is laid", narrow.count(3), 40);
        narrow.course(40);
        edges.due("ROOM at the eaves", narrow.told(0, 3), 40);
        RoofCourses broad = Checks.laid("h40,60,9;r100,240;i9;");
        edges.due("the greatest is laid", broad.count(3), 240);
        broad.course(40);
        edges.due("ROOM at the eaves, with a HIP", broad.told(0, 3), 240);
    }

    /** 200 letters without FAULT; its last item alone tells HIP 7. */
    private static String twoHundred() {
        return "h40,30,9;" + "i1;".repeat(62) + "i007;";
    }

    private static void letters(Edges edges) {
        edges.ofTerms("THE TEXT is letters (200 at most).");
        RoofCourses roof = new RoofCourses();
        Checks.write(roof, twoHundred());
        edges.due("200 letters", roof.count(12), 200);
        edges.due("one more", roof.write('i'), FULL);
        edges.due("still 200", roof.count(12), 200);
        edges.due("the 200 are laid", roof.lay(), 1);
        edges.due("by the last of them, too", roof.count(6), 7);
    }

    private static void items(Edges edges) {
        edges.ofTerms("A TEXT is ITEMS one behind the other, a ; behind each");
        edges.due("no item", Checks.fault(""), NONE);
        edges.due("one", Checks.fault("h40,30,9;"), NONE);
        edges.due("two", Checks.fault("h40,30,9;i1;"), NONE);
        edges.due("no ; behind the only one", Checks.fault("h40,30,9"), 0);
        edges.due("no ; behind the last one", Checks.fault("h40,30,9;i1"), 9);
        edges.due("no ; behind the first one", Checks.fault("h40,30,9i1;"), 0);
        edges.due("a ; alone", Checks.fault(";"), 0);
        edges.due("a ; too many", Checks.fault("h40,30,9;;"), 9);
        edges.due("a blank between", Checks.fault("h40,30,9; i1;"), 9);
        edges.due("a blank at the end", Checks.fault("h40,30,9; "), 9);
    }

    private static void figures(Edges edges) {
        edges.ofTerms("numbers have one to three figures:");
        String[][] forms = {{"h", ",30,9;", "40"}, {"h40,", ",9;", "30"}, {"h40,30,", ";", "9"}, {"r", ",120;", "100"},
            {"r100,", ";", "120"}, {"p", ",4;", "6"}, {"p6,", ";", "4"}, {"i", ";", "2"}};
        for (String[] form : forms) {
            String three = "0".repeat(3 - form[2].length()) + form[2];
            edges.due("no figure, " + form[0], Checks.fault(form[0] + form[1]), 0);
            edges.due("as few as can be, " + form[0], Checks.fault(form[0] + form[2] + form[1]), NONE);
            edges.due("three, " + form[0], Checks.fault(form[0] + three + form[1]), NONE);
            edges.due("four, " + form[0], Checks.fault(form[0] + "0" + three + form[1]), 0);
        }
        edges.due("three are read as one", Checks.laid("h040,030,009;i002;").count(6), 2);
        edges.due("next to the figures, below", Checks.fault("i/;"), 0);
        edges.due("next to the figures, above", Checks.fault("i:;"), 0);
        edges.due("a sign", Checks.fault("i-0;"), 0);
        edges.due("another sign", Checks.fault("i+1;"), 0);
    }

    private static void slatesAtOnce(Edges edges) {
        edges.ofTerms("hL,B,N N SLATES (1 to 99) of LENGTH L, BREADTH B more");
        range(edges, "h40,30,", 1, 99, ";");
        edges.due("the least is laid", Checks.heap(Checks.laid("h40,30,1;"), 0), "40 30 1 0");
        edges.due("the greatest is laid", Checks.heap(Checks.laid("h40,30,99;"), 0), "40 30 99 0");
        edges.due("a number too few", Checks.fault("h40,30;"), 0);
        edges.due("a number too many", Checks.fault("h40,30,9,9;"), 0);
    }

    private static void slatesOfAHeap(Edges edges) {
        edges.ofTerms("(of a HEAP that is told already they come to it, 999 at most)");
        edges.due("they come to it", Checks.heap(Checks.laid("h40,30,5;h30,30,1;h40,30,7;"), 0), "40 30 12 0");
        edges.due("998", Checks.laid(TEN_TIMES_99 + "h40,30,8;").heap(0, 2), 998);
        edges.due("999", Checks.laid(TEN_TIMES_99 + "h40,30,9;").heap(0, 2), 999);
        edges.due("1000", Checks.fault(TEN_TIMES_99 + "h40,30,10;"), 100);
        edges.due("999, and of other ones more", Checks.fault(TEN_TIMES_99 + "h40,30,9;h40,31,99;"), NONE);
        edges.due("it is no ninth", Checks.laid(EIGHT + "h60,10,98;").heap(1, 2), 99);
    }

    private static void roof(Edges edges) {
        edges.ofTerms("rH,W the ROOF is H HIGH, W WIDE (100, 120 without; of several the last one counts)");
        RoofCourses without = Checks.laid("h40,30,9;");
        edges.due("without", without.count(2) + " " + without.count(3), "100 120");
        RoofCourses one = Checks.laid("r90,110;h40,30,9;");
        edges.due("one", one.count(2) + " " + one.count(3), "90 110");
        RoofCourses several = Checks.laid("r90,110;h40,30,9;r400,40;r20,240;");
        edges.due("several", several.count(2) + " " + several.count(3), "20 240");
        edges.due("a number too few", Checks.fault("r100;"), 0);
        edges.due("a number too many", Checks.fault("r100,120,1;"), 0);
    }

    private static void lap(Edges edges) {
        edges.ofTerms("pP,J LAP P (1 to 10)");
        range(edges, "p", 1, 10, ",4;");
        edges.due("the least is laid", Checks.laid("h40,30,9;p1,4;").count(4), 1);
        edges.due("the greatest is laid", Checks.laid("h40,30,9;p10,4;").count(4), 10);
    }

    private static void breaking(Edges edges) {
        edges.ofTerms("BREAK J (1 to 9)");
        range(edges, "p6,", 1, 9, ";");
        edges.due("the least is laid", Checks.laid("h40,30,9;p6,1;").count(5), 1);
        edges.due("the greatest is laid", Checks.laid("h40,30,9;p6,9;").count(5), 9);
    }

    private static void lapAndBreakWithout(Edges edges) {
        edges.ofTerms("(6, 4 without; of several the last one counts)");
        RoofCourses without = Checks.laid("h40,30,9;");
        edges.due("without", without.count(4) + " " + without.count(5), "6 4");
        RoofCourses several = Checks.laid("p1,9;h40,30,9;p6,4;p10,1;");
        edges.due("several", several.count(4) + " " + several.count(5), "10 1");
        edges.due("a number too few", Checks.fault("p6;"), 0);
        edges.due("a number too many", Checks.fault("p6,4,1;"), 0);
    }

    private static void hip(Edges edges) {
        edges.ofTerms("iI HIP I (0 to 9)");
        range(edges, "i", 0, 9, ";");
        edges.due("the least is laid", Checks.laid("h40,30,9;i5;i0;").count(6), 0);
        edges.due("the greatest is laid", Checks.laid("h40,30,9;i9;").count(6), 9);
    }

    private static void hipWithout(Edges edges) {
        edges.ofTerms("(0 without; of several the last one counts)");
        edges.due("without", Checks.laid("h40,30,9;").count(6), 0);
        edges.due("several", Checks.laid("i9;h40,30,9;i0;i3;").count(6), 3);
        edges.due("a number too many", Checks.fault("i1,1;"), 0);
    }

    private static void faultPlace(Edges edges) {
        edges.ofTerms("FAULT: the place (from 0 on) of the first letter of the first ITEM that is not so");
        edges.due("the first item", Checks.fault("i10;h40,30,9;"), 0);
        edges.due("the second item", Checks.fault("i1;i10;h40,30,9;"), 3);
        edges.due("the last item", Checks.fault("i1;h40,30,9;i10;"), 12);
        edges.due("the first of two", Checks.fault("i1;i10;x"), 3);
        edges.due("not mended by a later one", Checks.fault("i1;i10;i1;"), 3);
        edges.due("its first letter, not the one at fault", Checks.fault("i1;h40,30,x;"), 3);
        edges.due("a letter that begins none", Checks.fault("i1;x1;"), 3);
        edges.due("a great letter", Checks.fault("I1;"), 0);
        String before = "i01;" + "i1;".repeat(65);
        edges.due("199 letters without FAULT", Checks.fault(before), NONE);
        edges.due("the 200th letter", Checks.fault(before + "h"), 199);
    }

    private static void faultByHeaps(Edges edges) {
        edges.ofTerms("(or by which there are more than 8 HEAPS");
        edges.due("eight", Checks.fault(EIGHT), NONE);
        edges.due("a ninth", Checks.fault(EIGHT + "h20,11,1;"), 72);
        edges.due("a ninth behind other items", Checks.fault(EIGHT + "i1;h60,10,1;h20,11,1;"), 84);
    }

    private static void faultBySlates(Edges edges) {
        edges.ofTerms("or a HEAP has more than 999).");
        edges.due("999", Checks.fault(TEN_TIMES_99 + "h40,30,9;"), NONE);
        edges.due("1000", Checks.fault(TEN_TIMES_99 + "h40,30,9;h40,30,1;"), 109);
        edges.due("the item by which it has more", Checks.fault(TEN_TIMES_99 + "i1;h40,30,99;i10;"), 103);
    }

    private static void laid(Edges edges) {
        edges.ofTerms("LAID is a TEXT without FAULT with a HEAP at least (NO else;");
        edges.leaves("no item", () -> telling(""), RoofCourses::lay, NO);
        edges.leaves("no HEAP", () -> telling("r100,120;p6,4;i2;"), RoofCourses::lay, NO);
        edges.leaves("FAULT behind a HEAP", () -> telling("h40,30,9;r50,50;i10;"), RoofCourses::lay, NO);
        edges.leaves("FAULT ahead of a HEAP", () -> telling("i10;h40,30,9;"), RoofCourses::lay, NO);
        edges.leaves("no ; at the end", () -> telling("h40,30,9"), RoofCourses::lay, NO);
        edges.due("the least TEXT", telling("h20,10,1;").lay(), 1);
    }

    /** A roof in the midst of things, with another text that is not laid yet. */
    private static RoofCourses telling(String text) {
        RoofCourses roof = Checks.laid("h60,40,9;h30,25,9;r100,60;");
        roof.course(60);
        roof.bring(1, 3);
        roof.wipe();
        Checks.write(roof, text);
        return roof;
    }

    private static void laidAtFirst(Edges edges) {
        String text = "h40,30,30;h40,22,30;h40,17,9;h30,25,40;h30,18,40;h24,20,60;h24,11,30;r110,130;p6,4;i2;";
        edges.ofTerms("at first " + text + "):");
        RoofCourses told = Checks.laid(text);
        told.wipe();
        RoofCourses atFirst = new RoofCourses();
        edges.due("all of it", Checks.all(atFirst), Checks.all(told));
        edges.due("its counts", Checks.counts(atFirst), "7 0 110 130 6 4 2 0 0 0 239 0 0");
    }

    private static void laidWithoutCourse(Edges edges) {
        edges.ofTerms("no COURSE is laid.");
        RoofCourses roof = telling("h60,40,9;h30,25,9;r100,60;");
        edges.due("a COURSE before", roof.count(1), 1);
        roof.lay();
        edges.due("none behind", roof.count(1), 0);
        edges.due("none is told", roof.told(0, 0), BAD);
        edges.due("all SLATES are as in the TEXT", Checks.heap(roof, 0) + ", " + Checks.heap(roof, 1),
            "60 40 9 0, 30 25 9 0");
        edges.due("the next FOOT, READY and WASTE", roof.count(7) + " " + roof.count(8) + " " + roof.count(9), "0 0 0");
    }

    private static void numbering(Edges edges) {
        edges.ofTerms("HEAPS are numbered 0, 1, .. from the greatest LENGTH on, of like ones from the greatest BREADTH on.");
        RoofCourses roof = Checks.laid("h20,10,1;h40,10,2;h20,60,3;h60,10,4;h40,60,5;h60,11,6;h40,35,7;h59,60,8;");
        String[] order = {"60 11 6", "60 10 4", "59 60 8", "40 60 5", "40 35 7", "40 10 2", "20 60 3", "20 10 1"};
        for (int h = 0; h < order.length; h++) {
            edges.due("HEAP " + h, Checks.heap(roof, h), order[h] + " 0");
        }
    }

    private static void newObject(Edges edges) {
        edges.of("Promise 1", "As told; THE TEXT is empty.");
        RoofCourses roof = new RoofCourses();
        edges.due("letters", roof.count(12), 0);
        edges.due("wiped", roof.wipe(), 0);
        edges.due("FAULT", roof.fault(), NONE);
        edges.due("nothing to lay", roof.lay(), NO);
        edges.due("still as told", Checks.counts(roof), "7 0 110 130 6 4 2 0 0 0 239 0 0");
        edges.due("the first letter", roof.write('h'), 1);
    }

    private static void write(Edges edges) {
        edges.of("Promise 2", "A letter (32 to 126, as in ASCII) comes behind THE TEXT: how long it is.");
        RoofCourses roof = new RoofCourses();
        for (int letter = 32; letter <= 126; letter++) {
            edges.due("letter " + letter, roof.write(letter), letter - 31);
        }
        RoofCourses behind = Checks.laid("h40,30,9;");
        Checks.write(behind, "i3;");
        behind.lay();
        edges.due("behind, not ahead", behind.count(6), 3);
    }

    private static void writeBad(Edges edges) {
        edges.of("Promise 2", "BAD;");
        int[] none = {31, 127, 0, -1, 128, 256 + 'h', 65536 + 'h', -65536 + 'h', Integer.MIN_VALUE, Integer.MAX_VALUE};
        for (int letter : none) {
            edges.leaves("letter " + letter, () -> telling("h40,30,9;"), roof -> roof.write(letter), BAD);
        }
    }

    private static void writeFull(Edges edges) {
        edges.of("Promise 2", "FULL: it has 200.");
        String text = twoHundred();
        edges.due("the 199th", telling(text.substring(0, 198)).write('7'), 199);
        edges.due("the 200th", telling(text.substring(0, 199)).write(';'), 200);
        edges.leaves("the 201st", () -> telling(text), roof -> roof.write(';'), FULL);
        edges.leaves("the 201st, when there is a FAULT", () -> telling("x".repeat(200)), roof -> roof.write('h'), FULL);
        edges.leaves("BAD is ahead of FULL", () -> telling(text), roof -> roof.write(127), BAD);
        RoofCourses wiped = telling(text);
        wiped.wipe();
        edges.due("wiped, the first one", wiped.write('h'), 1);
    }

    private static void wipe(Edges edges) {
        edges.of("Promise 3", "THE TEXT is empty: how long it was.");
        edges.due("none", telling("").wipe(), 0);
        edges.due("one", telling("x").wipe(), 1);
        edges.due("all 200", telling(twoHundred()).wipe(), 200);
        RoofCourses roof = telling("h40,30,9;i10;");
        String stood = Checks.all(roof);
        roof.wipe();
        edges.due("letters", roof.count(12), 0);
        edges.due("no FAULT", roof.fault(), NONE);
        edges.due("nothing to lay", roof.lay(), NO);
        edges.due("twice", roof.wipe(), 0);
        Checks.write(roof, "h40,30,9;i10;");
        edges.due("what is laid stays", Checks.all(roof), stood);
    }

    private static void fault(Edges edges) {
        edges.of("Promise 4", "FAULT.");
        edges.leaves("a FAULT that is asked for", () -> telling("h40,30,9;r50,50;i10;"), RoofCourses::fault, 16);
        RoofCourses roof = telling("h40,30,9;i1");
        edges.due("not at its end yet", roof.fault(), 9);
        roof.write(';');
        edges.due("at its end", roof.fault(), NONE);
        roof.write('x');
        edges.due("at fault again", roof.fault(), 12);
    }

    private static void faultNone(Edges edges) {
        edges.of("Promise 4", "NONE.");
        edges.leaves("an empty TEXT", () -> telling(""), RoofCourses::fault, NONE);
        edges.leaves("a TEXT without HEAP", () -> telling("i2;"), RoofCourses::fault, NONE);
        edges.leaves("a TEXT that is not laid", () -> telling("h40,30,9;r50,50;"), RoofCourses::fault, NONE);
        edges.leaves("200 letters", () -> telling(twoHundred()), RoofCourses::fault, NONE);
    }

    private static void lay(Edges edges) {
        edges.of("Promise 5", "LAID: how many HEAPS.");
        edges.due("one", telling("h20,10,1;").lay(), 1);
        edges.due("two items of one", telling("h20,10,1;h20,10,1;").lay(), 1);
        edges.due("eight", telling(EIGHT).lay(), 8);
        RoofCourses fewer = Checks.laid(EIGHT);
        fewer.wipe();
        Checks.write(fewer, "h40,30,9;");
        fewer.lay();
        edges.due("none of eight is left", fewer.heap(1, 0), BAD);
        edges.due("SLATES of one", fewer.count(10), 9);
    }

    private static void layNo(Edges edges) {
        edges.of("Promise 5", "NO.");
        edges.leaves("a ninth HEAP", () -> telling(EIGHT + "h21,10,1;"), RoofCourses::lay, NO);
        edges.leaves("1000 SLATES", () -> telling(TEN_TIMES_99 + "h40,30,10;"), RoofCourses::lay, NO);
        edges.leaves("an empty TEXT", () -> telling(""), RoofCourses::lay, NO);
    }
}
