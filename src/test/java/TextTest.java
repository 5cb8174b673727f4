/** Promises 1 to 5: a new object, write, wipe, fault, lay. */
public final class TextTest {
    private static final int BAD = RoofCourses.BAD, NO = RoofCourses.NO;
    private static final int FULL = RoofCourses.FULL, NONE = RoofCourses.NONE;
    private static final Checks checks = new Checks("TextTest");

    public static void main(String[] args) {
        newObject();
        writing();
        wiping();
        soundTexts();
        faultyNumbers();
        faultyForms();
        faultyHeaps();
        laying();
        layingRefused();
        nothingOfTheOldOne();
        checks.end();
    }

    private static void newObject() {
        RoofCourses roof = new RoofCourses();
        checks.due("new counts", Checks.counts(roof), "7 0 110 130 6 4 2 0 0 0 239 0 0");
        String[] heaps = {"40 30 30 0", "40 22 30 0", "40 17 9 0", "30 25 40 0", "30 18 40 0", "24 20 60 0", "24 11 30 0"};
        for (int h = 0; h < heaps.length; h++) {
            checks.due("new heap " + h, Checks.heap(roof, h), heaps[h]);
        }
        checks.due("new fault", roof.fault(), NONE);
        checks.due("new lay", roof.lay(), NO);
        checks.due("new up", roof.up(), NO);
        checks.due("new undo", roof.undo(), NO);
        checks.due("new told", roof.told(0, 0), BAD);
        RoofCourses other = new RoofCourses();
        other.course(40);
        checks.due("objects are apart", roof.count(1), 0);
    }

    private static void writing() {
        RoofCourses roof = new RoofCourses();
        int[] none = {31, 127, 0, -1, 256 + 'h', 65536 + 'h', Integer.MIN_VALUE, Integer.MAX_VALUE};
        for (int letter : none) {
            checks.due("write " + letter, roof.write(letter), BAD);
        }
        checks.due("nothing is written", roof.count(12), 0);
        checks.due("write 32", roof.write(32), 1);
        checks.due("write 126", roof.write(126), 2);
        for (int k = 3; k <= 200; k++) {
            checks.due("write " + k, roof.write('h'), k);
        }
        checks.due("write 201", roof.write('h'), FULL);
        checks.due("write bad when full", roof.write(31), BAD);
        checks.due("letters", roof.count(12), 200);
        checks.due("wipe 200", roof.wipe(), 200);
        checks.due("write again", roof.write('h'), 1);
    }

    private static void wiping() {
        RoofCourses roof = new RoofCourses();
        checks.due("wipe nothing", roof.wipe(), 0);
        Checks.write(roof, "h40,30,3;");
        roof.lay();
        checks.due("wipe", roof.wipe(), 9);
        checks.due("wiped letters", roof.count(12), 0);
        checks.due("wiped again", roof.wipe(), 0);
        checks.due("what is laid stays", roof.count(0), 1);
        checks.due("an empty text is not laid", roof.lay(), NO);
        Checks.write(roof, "i1;");
        checks.due("nothing of the old text is left", roof.lay(), NO);
    }

    private static void soundTexts() {
        String[] texts = {"", "h20,10,1;", "h60,60,99;", "r20,40;", "r400,240;", "p1,1;", "p10,9;", "i0;", "i9;",
            "h020,010,001;", "i009;", "i09;", "r020,040;", "h40,30,1;r100,100;p2,2;i1;r20,40;p1,1;i0;h40,30,99;"};
        for (String text : texts) {
            checks.due("fault of " + text, Checks.fault(text), NONE);
        }
    }

    private static void faultyNumbers() {
        String[] items = {"h19,10,1;", "h61,10,1;", "h20,9,1;", "h20,61,1;", "h20,10,0;", "h20,10,100;", "r19,100;",
            "r401,100;", "r100,39;", "r100,241;", "p0,4;", "p11,4;", "p6,0;", "p6,10;", "i10;", "i999;"};
        for (String item : items) {
            checks.due("fault of " + item, Checks.fault(item), 0);
            checks.due("fault behind another, " + item, Checks.fault("h40,30,1;" + item), 9);
            checks.due("fault ahead of another, " + item, Checks.fault(item + "h40,30,1;"), 0);
        }
        checks.due("a fault that a later item mends", Checks.fault("i1;i10;i1;"), 3);
    }

    private static void faultyForms() {
        String[] items = {";", "x", "x1;", "H40,30,1;", "h", "h;", "h40", "h40,", "h40,30", "h40,30,", "h40,30,1", "h40,30;",
            "h40,30,1,", "h40,30,1,1;", "h,30,1;", "h40,,1;", "h40,30,;", "h40;30;1;", "h 40,30,1;", " h40,30,1;",
            "h0040,30,1;", "h40,0030,1;", "h40,30,0001;", "r100;", "r100,100,100;", "r100,100", "p6;", "p6,4,1;", "i;",
            "i1", "i1,1;", "i-1;", "i+1;", "i0001;", "i1:", "i1/", "i:;", "i/;", "ii1;", "i1;;"};
        for (String item : items) {
            int place = item.equals("i1;;") ? 3 : 0;
            checks.due("fault of " + item, Checks.fault(item), place);
            checks.due("fault behind another, " + item, Checks.fault("i1;" + item), place + 3);
        }
        String sound = Checks.repeat("i1;", 66);
        checks.due("a full text", Checks.fault(sound + "i1"), 198);
        checks.due("a full text, sound", Checks.fault(sound + ""), NONE);
        checks.due("a text of 200, sound", Checks.fault(sound.substring(3) + "i001;"), NONE);
    }

    private static void faultyHeaps() {
        StringBuilder eight = new StringBuilder();
        for (int k = 0; k < 8; k++) {
            eight.append("h2").append(k).append(",10,9;");
        }
        checks.due("eight heaps", Checks.fault(eight.toString()), NONE);
        checks.due("a ninth", Checks.fault(eight + "h28,10,9;"), 72);
        checks.due("a ninth by breadth", Checks.fault(eight + "i1;h20,11,9;"), 75);
        checks.due("more of an old one", Checks.fault(eight + "h23,10,9;"), NONE);
        String ten = Checks.repeat("h20,10,99;", 10);
        checks.due("999 slates", Checks.fault(ten + "h20,10,9;"), NONE);
        checks.due("1000 slates", Checks.fault(ten + "h20,10,10;"), 100);
        checks.due("1000 slates, by a later one", Checks.fault(ten + "h20,10,9;h20,11,1;h20,10,1;"), 118);
        checks.due("999 slates laid", Checks.laid(ten + "h20,10,9;").heap(0, 2), 999);
    }

    private static void laying() {
        RoofCourses roof = new RoofCourses();
        roof.course(40);
        roof.bring(0, 3);
        Checks.write(roof, "h20,10,1;h60,60,2;h20,11,3;h40,30,4;h20,10,5;");
        checks.due("lay", roof.lay(), 4);
        checks.due("laid counts, without r, p, i", Checks.counts(roof), "4 0 100 120 6 4 0 0 0 0 15 0 45");
        String[] heaps = {"60 60 2 0", "40 30 4 0", "20 11 3 0", "20 10 6 0"};
        for (int h = 0; h < heaps.length; h++) {
            checks.due("laid heap " + h, Checks.heap(roof, h), heaps[h]);
        }
        checks.due("behind lay nothing is undone", roof.undo(), NO);
        checks.due("behind lay nothing is taken up", roof.up(), NO);
        checks.due("told of no course", roof.told(0, 0), BAD);
        checks.due("the text stays", roof.count(12), 45);
        Checks.write(roof, "r20,40;p1,1;i9;r400,240;p10,9;i3;");
        checks.due("lay more", roof.lay(), 4);
        checks.due("the last one counts", Checks.counts(roof), "4 0 400 240 10 9 3 0 0 0 15 0 78");
        roof.bring(0, 9);
        checks.due("brought", roof.heap(0, 2), 11);
        checks.due("lay again", roof.lay(), 4);
        checks.due("slates as in the text again", roof.heap(0, 2), 2);
        checks.due("fewer heaps", Checks.laid("h40,30,4;").heap(1, 0), BAD);
    }

    private static void layingRefused() {
        String[] texts = {"", "r100,100;p1,1;i1;", "h40,30,4", "h40,30,4;i10;", "i10;h40,30,4;", "h40,30,4;r20,40;x"};
        for (String text : texts) {
            RoofCourses roof = new RoofCourses();
            roof.course(40);
            roof.bring(1, 5);
            Checks.write(roof, text);
            String before = Checks.all(roof);
            checks.due("lay " + text, roof.lay(), NO);
            checks.due("nothing changes by lay " + text, Checks.all(roof), before);
            roof.fault();
            checks.due("nothing changes by fault of " + text, Checks.all(roof), before);
            checks.due("undo is still there", roof.undo(), 1);
        }
    }

    private static void nothingOfTheOldOne() {
        RoofCourses roof = Checks.laid("h60,40,7;h50,40,7;h40,40,7;h30,40,7;h25,40,7;h24,40,7;h23,40,7;h22,40,7;"
            + "r20,40;p1,1;i9;");
        checks.due("left of eight", roof.count(10), 56);
        checks.due("eight lengths", roof.next(1), 60);
        checks.due("none of eight", roof.course(21), NO);
        checks.due("the shortest of eight", roof.course(22), 1);
        roof.wipe();
        Checks.write(roof, "h60,40,1;");
        checks.due("lay one", roof.lay(), 1);
        checks.due("counts of one", Checks.counts(roof), "1 0 100 120 6 4 0 0 0 0 1 0 9");
        for (int l = 20; l <= 60; l++) {
            checks.due("course " + l, roof.course(l), NO);
        }
        checks.due("none is next", roof.next(0), NONE);
    }
}
