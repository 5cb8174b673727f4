/** Promises 6 to 9: course, up, bring, undo. */
public final class ChangesTest {
    private static final int BAD = RoofCourses.BAD, NO = RoofCourses.NO, FULL = RoofCourses.FULL;
    private static final Checks checks = new Checks("ChangesTest");

    public static void main(String[] args) {
        cutWhereNoneIsBroken();
        cutByOneAndToOne();
        cutOnesAreUsedUp();
        endBelowIsNoJoint();
        noneCanBeCut();
        endingByTheLeast();
        runningOut();
        lengthsGoDown();
        readyRoof();
        twentyCourses();
        hipAndRoom();
        takenUp();
        brought();
        broughtBeyondFull();
        undone();
        onlySixUndone();
        undoneAsItWas();
        checks.end();
    }

    private static void refused(RoofCourses roof, int l, int want) {
        String before = Checks.all(roof);
        checks.due("course " + l, roof.course(l), want);
        checks.due("nothing changes by course " + l, Checks.all(roof), before);
    }

    private static void cutWhereNoneIsBroken() {
        RoofCourses roof = Checks.laid("h20,10,99;r100,40;p10,4;");
        checks.due("first course", roof.course(20), 4);
        checks.due("first slates", Checks.slates(roof, 0), "0:10 0:10 0:10 0:10");
        checks.due("second course", roof.course(20), 5);
        checks.due("cut at 6, being 4 from 10", Checks.slates(roof, 1), "0:6 0:10 0:10 0:10 0:4");
        checks.due("second told", Checks.told(roof, 1), "20 5 5 40 5 200 -4 2");
        RoofCourses near = Checks.laid("h20,10,99;r100,40;p10,5;");
        near.course(20);
        near.course(20);
        checks.due("5 from both joints is broken", Checks.slates(near, 1), "0:5 0:10 0:10 0:10 0:5");
        RoofCourses broadest = Checks.laid("h20,11,99;h20,10,99;r100,40;p10,4;");
        broadest.course(20);
        checks.due("first by 11", Checks.slates(broadest, 0), "0:11 0:11 0:11 1:7");
        broadest.course(20);
        checks.due("the broadest is cut", Checks.slates(broadest, 1), "0:7 0:11 0:11 0:11");
    }

    private static void cutByOneAndToOne() {
        RoofCourses one = Checks.laid("h30,13,9;h20,10,9;r100,40;p6,4;");
        one.course(30);
        one.course(20);
        checks.due("10 cut to 9, being 4 from 13", Checks.slates(one, 1), "1:9 1:10 1:3 1:10 1:8");
        RoofCourses least = Checks.laid("h30,28,9;h20,18,9;r100,70;p6,9;");
        least.course(30);
        least.course(20);
        checks.due("18 cut to 1, being 9 from 28 at 19", Checks.slates(least, 1), "1:18 1:1 1:18 1:10 1:18 1:5");
    }

    private static void cutOnesAreUsedUp() {
        RoofCourses roof = Checks.laid("h20,10,8;r100,40;p10,4;");
        roof.course(20);
        refused(roof, 20, NO);
        roof.bring(0, 1);
        checks.due("five are enough", roof.course(20), 5);
        checks.due("none is left", Checks.heap(roof, 0), "20 10 0 9");
    }

    private static void endBelowIsNoJoint() {
        RoofCourses roof = Checks.laid("h30,40,9;h20,38,9;r100,40;p6,4;");
        roof.course(30);
        roof.course(20);
        checks.due("joint near the end below", Checks.slates(roof, 1), "1:38 1:2");
    }

    private static void noneCanBeCut() {
        RoofCourses roof = Checks.laid("h20,10,99;r100,40;p10,9;");
        roof.course(20);
        // Cut to 1 the first one is broken (9 from 10), but then nothing is, up to 11.
        refused(roof, 20, NO);
        checks.due("tried", roof.tried(20, 0), NO);
        RoofCourses one = Checks.laid("h20,12,99;h20,10,99;r100,40;p10,9;");
        one.course(20);
        checks.due("below", Checks.joints(one, 0), "12 24 36");
        refused(one, 20, NO);
    }

    private static void endingByTheLeast() {
        RoofCourses roof = Checks.laid("h40,60,9;h40,50,9;h40,40,9;h40,39,9;r100,40;");
        checks.due("one slate", roof.course(40), 1);
        checks.due("just the room", Checks.slates(roof, 0), "2:40");
        checks.due("no waste", Checks.told(roof, 0), "40 0 17 40 1 0 -4 0");
        RoofCourses cut = Checks.laid("h40,60,9;h40,50,1;r100,40;");
        cut.course(40);
        checks.due("the least that ends it", Checks.slates(cut, 0), "1:40");
        checks.due("waste of the end", Checks.told(cut, 0), "40 0 17 40 1 400 -4 1");
        cut.course(40);
        checks.due("the next one, when that heap is bare", Checks.slates(cut, 1), "0:40");
        checks.due("an end needs no break", cut.told(1, 7), 1);
    }

    private static void runningOut() {
        RoofCourses roof = Checks.laid("h40,30,2;h40,12,4;r100,100;");
        checks.due("broadest first, then what is left", roof.course(40), 6);
        checks.due("slates", Checks.slates(roof, 0), "0:30 0:30 1:12 1:12 1:12 1:4");
        checks.due("all are used", roof.count(10), 0);
        refused(roof, 40, NO);
        refused(Checks.laid("h40,30,3;r100,100;"), 40, NO);
        checks.due("just enough", Checks.laid("h40,30,4;r100,100;").course(40), 4);
    }

    private static void lengthsGoDown() {
        String text = "h60,40,9;h50,40,9;h20,40,9;r400,40;";
        int[] none = {19, 61, 0, -1, Integer.MIN_VALUE, Integer.MAX_VALUE};
        for (int l : none) {
            refused(Checks.laid(text), l, BAD);
        }
        RoofCourses roof = Checks.laid(text);
        refused(roof, 40, NO);
        checks.due("50 first", roof.course(50), 1);
        refused(roof, 60, NO);
        refused(roof, 51, NO);
        checks.due("50 again", roof.course(50), 1);
        checks.due("20", roof.course(20), 1);
        refused(roof, 50, NO);
        roof.up();
        checks.due("50 again, when 20 is taken up", roof.course(50), 1);
    }

    private static void readyRoof() {
        RoofCourses roof = Checks.laid("h40,40,9;h42,40,9;r34,40;p6,1;");
        roof.course(40);
        checks.due("not ready at 17", roof.count(8), 0);
        checks.due("second", roof.course(40), 1);
        checks.due("ready at 34", roof.count(8), 1);
        refused(roof, 40, NO);
        RoofCourses higher = Checks.laid("h40,40,9;h42,40,9;r35,40;p6,1;");
        higher.course(40);
        higher.course(40);
        checks.due("not ready at 34 of 35", higher.count(8), 0);
        checks.due("third", higher.course(40), 1);
        checks.due("height is told beyond the ridge", higher.count(7), 51);
        refused(higher, 40, NO);
        higher.up();
        checks.due("no longer ready", higher.count(8), 0);
    }

    private static void twentyCourses() {
        RoofCourses roof = Checks.laid("h20,50,99;r400,40;p10,1;");
        for (int c = 0; c < 20; c++) {
            checks.due("course " + c, roof.course(20), 1);
        }
        checks.due("height", roof.count(7), 100);
        String before = Checks.counts(roof);
        checks.due("a 21st", roof.course(20), NO);
        checks.due("nothing changes by it", Checks.counts(roof), before);
        checks.due("tried", roof.tried(20, 0), NO);
        checks.due("taken up", roof.up(), 19);
        checks.due("laid again", roof.course(20), 1);
        checks.due("waste of all", roof.count(9), 4000);
    }

    private static void hipAndRoom() {
        RoofCourses roof = Checks.laid("h60,60,99;r400,100;p1,1;i7;");
        int[] rooms = {100, 80, 60, 40, 20, 20};
        for (int c = 0; c < rooms.length; c++) {
            roof.course(60);
            checks.due("foot " + c, roof.told(c, 1), 29L * c);
            checks.due("room " + c, roof.told(c, 3), rooms[c]);
        }
        RoofCourses odd = Checks.laid("h25,60,99;r400,40;p4,1;i9;");
        odd.course(25);
        checks.due("gauge is cut", odd.told(0, 2), 10);
        odd.course(25);
        odd.course(25);
        checks.due("room at 20", odd.told(2, 3), 22);
        odd.course(25);
        checks.due("20 at least", odd.told(3, 3), 20);
    }

    private static void takenUp() {
        RoofCourses roof = Checks.laid("h40,30,9;h40,25,9;h30,40,9;r100,70;");
        checks.due("none to take up", roof.up(), NO);
        String before = Checks.heap(roof, 0) + Checks.heap(roof, 1) + Checks.heap(roof, 2);
        roof.course(40);
        roof.course(30);
        roof.course(30);
        checks.due("laid", Checks.slates(roof, 0) + "," + Checks.slates(roof, 1), "0:30 0:30 1:10,2:40 2:30");
        checks.due("two are left", roof.up(), 2);
        checks.due("slates come back", Checks.heap(roof, 2), "30 40 7 2");
        checks.due("one is left", roof.up(), 1);
        checks.due("none is left", roof.up(), 0);
        checks.due("whole again", Checks.heap(roof, 0) + Checks.heap(roof, 1) + Checks.heap(roof, 2), before);
        checks.due("no more", roof.up(), NO);
        checks.due("six changes", roof.count(11), 6);
        checks.due("no course is told", roof.told(0, 0), BAD);
    }

    private static void brought() {
        RoofCourses roof = Checks.laid("h40,30,9;h40,25,9;r100,70;");
        int[][] none = {{-1, 1}, {2, 1}, {8, 1}, {0, 0}, {0, 100}, {0, -1}, {Integer.MAX_VALUE, 5},
            {Integer.MIN_VALUE, 5}, {0, Integer.MAX_VALUE}, {0, Integer.MIN_VALUE}};
        String before = Checks.all(roof);
        for (int[] pair : none) {
            checks.due("bring " + pair[0] + ", " + pair[1], roof.bring(pair[0], pair[1]), BAD);
        }
        checks.due("nothing changes by bad ones", Checks.all(roof), before);
        checks.due("bring 1", roof.bring(0, 1), 10);
        checks.due("bring 99", roof.bring(1, 99), 108);
        checks.due("left in all", roof.count(10), 118);
        checks.due("heaps", Checks.heap(roof, 0) + "," + Checks.heap(roof, 1), "40 30 10 0,40 25 108 0");
    }

    private static void broughtBeyondFull() {
        RoofCourses roof = Checks.laid(Checks.repeat("h20,40,99;", 10) + "h20,40,8;r100,40;p10,1;");
        roof.course(20);
        checks.due("left", roof.heap(0, 2), 997);
        String before = Checks.all(roof);
        checks.due("bring 3", roof.bring(0, 3), FULL);
        checks.due("bad goes before full", roof.bring(0, 100), BAD);
        checks.due("nothing changes by full", Checks.all(roof), before);
        checks.due("bring 2", roof.bring(0, 2), 999);
        checks.due("bring 1", roof.bring(0, 1), FULL);
        roof.up();
        checks.due("taken up they come to be more", roof.heap(0, 2), 1000);
        checks.due("bring 1 more", roof.bring(0, 1), FULL);
        checks.due("laid again", roof.course(20), 1);
        checks.due("undo the laying", roof.undo(), 3);
        checks.due("undo the taking up", roof.undo(), 2);
        checks.due("left again", Checks.heap(roof, 0), "20 40 999 1");
    }

    private static void undone() {
        RoofCourses roof = Checks.laid("h40,30,9;h40,25,9;h30,40,9;r100,70;");
        String[] stood = new String[5];
        stood[0] = Checks.all(roof);
        roof.course(40);
        stood[1] = Checks.all(roof);
        roof.bring(2, 7);
        stood[2] = Checks.all(roof);
        roof.course(30);
        stood[3] = Checks.all(roof);
        roof.up();
        checks.due("refused ones are no changes", roof.course(31), NO);
        checks.due("four changes", roof.count(11), 4);
        for (int k = 3; k >= 0; k--) {
            checks.due("undo " + k, roof.undo(), k);
            checks.due("as it stood " + k, Checks.all(roof), stood[k]);
        }
        checks.due("no more", roof.undo(), NO);
        checks.due("nothing changes then", Checks.all(roof), stood[0]);
        roof.bring(0, 1);
        checks.due("a new change", roof.count(11), 1);
        checks.due("undo it", roof.undo(), 0);
    }

    private static void onlySixUndone() {
        RoofCourses roof = Checks.laid("h40,30,9;");
        for (int n = 1; n <= 8; n++) {
            roof.bring(0, n);
            checks.due("can be undone after " + n, roof.count(11), Math.min(n, 6));
        }
        checks.due("brought", roof.heap(0, 2), 45);
        checks.due("undo the 8th", roof.undo(), 5);
        checks.due("without the 8th", roof.heap(0, 2), 37);
        roof.bring(0, 50);
        checks.due("six again", roof.count(11), 6);
        for (int k = 5; k >= 0; k--) {
            checks.due("undo " + k, roof.undo(), k);
        }
        checks.due("the first two stay", roof.heap(0, 2), 12);
        checks.due("no seventh", roof.undo(), NO);
        checks.due("still there", roof.heap(0, 2), 12);
    }

    /** Laid anew the course would be another one: what is undone must be the old one. */
    private static void undoneAsItWas() {
        RoofCourses roof = Checks.laid("h40,30,1;h40,20,9;r100,70;");
        roof.course(40);
        String slates = Checks.slates(roof, 0);
        checks.due("laid with few", slates, "0:30 1:20 1:20");
        roof.bring(0, 9);
        String stood = Checks.all(roof);
        roof.up();
        checks.due("tried now it is another", roof.tried(40, 1), 400);
        checks.due("undo the taking up", roof.undo(), 2);
        checks.due("as it was", Checks.all(roof), stood);
        roof.up();
        roof.course(40);
        checks.due("laid with more", Checks.slates(roof, 0), "0:30 0:30 1:10");
        roof.undo();
        roof.undo();
        checks.due("as it was again", Checks.all(roof), stood);
    }
}
