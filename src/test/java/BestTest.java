/** Promises 14 to 17: tried, next, itself, count. */
public final class BestTest {
    private static final int BAD = RoofCourses.BAD, NO = RoofCourses.NO, NONE = RoofCourses.NONE;
    private static final int[] ODD = {-1, 13, Integer.MIN_VALUE, Integer.MAX_VALUE};
    private static final Checks checks = new Checks("BestTest");

    public static void main(String[] args) {
        tries();
        wasteByGauge();
        alikeTheGreatest();
        nextOfWhatCanBe();
        nothingNext();
        byItself();
        byItselfFromACourse();
        byItselfTillThereIsNone();
        byItselfTillTwenty();
        counts();
        checks.end();
    }

    private static void tries() {
        RoofCourses roof = Checks.laid("h40,30,9;h30,25,9;h20,45,1;r100,80;");
        String before = Checks.all(roof);
        checks.due("tried 40", roof.tried(40, 0), 3);
        checks.due("tried 40, waste", roof.tried(40, 1), 400);
        checks.due("tried 30", roof.tried(30, 0), 4);
        checks.due("tried 30, waste", roof.tried(30, 1), 600);
        checks.due("too few", roof.tried(20, 0), NO);
        checks.due("no heap", roof.tried(50, 1), NO);
        int[] none = {19, 61, -1, Integer.MIN_VALUE, Integer.MAX_VALUE};
        for (int l : none) {
            checks.due("tried " + l, roof.tried(l, 0), BAD);
        }
        for (int what : new int[] {-1, 2, Integer.MAX_VALUE, Integer.MIN_VALUE}) {
            checks.due("tried 40, what " + what, roof.tried(40, what), BAD);
            checks.due("bad goes before no, what " + what, roof.tried(50, what), BAD);
        }
        checks.due("nothing changes", Checks.all(roof), before);
        roof.course(30);
        checks.due("longer than the last", roof.tried(40, 0), NO);
        checks.due("tried above, cut for the break", roof.tried(30, 0), 4);
        checks.due("tried above, waste", roof.tried(30, 1), 600);
        checks.due("the course below is as it was", Checks.slates(roof, 0), "1:25 1:25 1:25 1:5");
        roof.course(30);
        checks.due("a course is as if none had been tried", Checks.told(roof, 1), "30 12 12 80 4 600 -4 2");
        RoofCourses ready = Checks.laid("h60,60,9;r20,40;");
        ready.course(60);
        checks.due("ready", ready.tried(60, 0), NO);
    }

    private static void wasteByGauge() {
        // 300 by 27 is less than 80 by 7.
        RoofCourses roof = Checks.laid("h60,45,5;h20,44,5;r100,40;");
        checks.due("less by gauge", roof.next(0), 60);
        // 360 by 27 is more than 80 by 7.
        RoofCourses more = Checks.laid("h60,46,5;h20,44,5;r100,40;");
        checks.due("more by gauge", more.next(0), 20);
        checks.due("the greatest all the same", more.next(1), 60);
        // By LENGTH 20 would waste less (5 and 4), by GAUGE 60 does: 300 by 25 and 80 by 5.
        RoofCourses lap = Checks.laid("h60,45,5;h20,44,5;r100,40;p10,1;");
        checks.due("by gauge, not by length", lap.next(0), 60);
        for (int how : new int[] {-1, 2, Integer.MIN_VALUE, Integer.MAX_VALUE}) {
            checks.due("next " + how, roof.next(how), BAD);
        }
    }

    private static void alikeTheGreatest() {
        RoofCourses none = Checks.laid("h20,40,5;h30,40,5;h25,40,5;r100,40;");
        checks.due("no waste by any", none.next(0), 30);
        // 600 by 25 and 360 by 15 are alike.
        RoofCourses alike = Checks.laid("h60,50,5;h40,49,5;r100,40;p10,1;");
        checks.due("alike", alike.next(0), 60);
        RoofCourses less = Checks.laid("h60,50,5;h40,48,5;r100,40;p10,1;");
        checks.due("less", less.next(0), 40);
    }

    private static void nextOfWhatCanBe() {
        RoofCourses roof = Checks.laid("h60,30,1;h50,45,9;h30,40,1;r400,40;");
        checks.due("of those that can be", roof.next(1), 50);
        checks.due("least waste", roof.next(0), 30);
        roof.course(30);
        checks.due("none is left of 30, longer ones may not", roof.next(0), NONE);
        checks.due("greatest neither", roof.next(1), NONE);
        roof.bring(2, 1);
        checks.due("brought", roof.next(0), 30);
        checks.due("brought, greatest", roof.next(1), 30);
    }

    private static void nothingNext() {
        RoofCourses ready = Checks.laid("h60,60,9;r20,40;");
        ready.course(60);
        checks.due("ready", ready.next(0), NONE);
        checks.due("ready, greatest", ready.next(1), NONE);
        checks.due("bad all the same", ready.next(2), BAD);
        RoofCourses twenty = Checks.laid("h20,50,99;r400,40;p10,1;");
        for (int c = 0; c < 20; c++) {
            checks.due("next before " + c, twenty.next(c % 2), 20);
            twenty.course(20);
        }
        checks.due("twenty", twenty.next(0), NONE);
        checks.due("twenty, greatest", twenty.next(1), NONE);
    }

    private static void itselfDue(RoofCourses roof, int how, String want) {
        String before = Checks.all(roof);
        String got = roof.itself(how, 0) + " " + roof.itself(how, 1) + " " + roof.itself(how, 2);
        checks.due("itself by " + how, got, want);
        checks.due("nothing changes by itself", Checks.all(roof), before);
    }

    private static void byItself() {
        // 60 wastes 5 a course at GAUGE 27, 20 wastes nothing at GAUGE 7.
        RoofCourses roof = Checks.laid("h60,45,99;h20,40,99;r100,40;");
        itselfDue(roof, 0, "15 0 1");
        itselfDue(roof, 1, "4 1200 1");
        for (int odd : ODD) {
            checks.due("itself how " + odd, roof.itself(odd, 0), BAD);
            checks.due("itself what " + odd, roof.itself(0, odd), BAD);
        }
        checks.due("itself how 2", roof.itself(2, 0), BAD);
        checks.due("itself what 3", roof.itself(0, 3), BAD);
        RoofCourses first = new RoofCourses();
        itselfDue(first, 0, "11 1248 0");
        itselfDue(first, 1, "7 2080 1");
    }

    /** What is laid by itself is what the calls of next and course lay. */
    private static void byItselfFromACourse() {
        for (int how = 0; how <= 1; how++) {
            RoofCourses roof = new RoofCourses();
            roof.course(40);
            int waste = roof.count(9);
            int more = roof.itself(how, 0);
            int wasteMore = roof.itself(how, 1);
            int ready = roof.itself(how, 2);
            int laid = 0;
            for (int l = roof.next(how); l != NONE && laid < 20; l = roof.next(how)) {
                roof.course(l);
                laid++;
            }
            checks.due("courses by " + how, laid, more);
            checks.due("waste by " + how, roof.count(9) - waste, wasteMore);
            checks.due("ready by " + how, roof.count(8), ready);
            String then = roof.itself(how, 0) + " " + roof.itself(how, 1) + " " + roof.itself(how, 2);
            checks.due("nothing more by " + how, then, "0 0 " + ready);
        }
    }

    private static void byItselfTillThereIsNone() {
        RoofCourses roof = Checks.laid("h60,45,2;h20,44,3;r400,40;");
        itselfDue(roof, 0, "5 840 0");
        itselfDue(roof, 1, "5 840 0");
        RoofCourses few = Checks.laid("h60,30,1;r400,40;");
        itselfDue(few, 0, "0 0 0");
        itselfDue(few, 1, "0 0 0");
    }

    private static void byItselfTillTwenty() {
        RoofCourses roof = Checks.laid("h20,41,99;r400,40;p10,1;");
        itselfDue(roof, 0, "20 400 0");
        roof.course(20);
        roof.course(20);
        itselfDue(roof, 1, "18 360 0");
    }

    private static void counts() {
        RoofCourses roof = Checks.laid("h40,30,9;h40,20,9;h30,25,9;r99,80;p7,3;i5;");
        checks.due("at first", Checks.counts(roof), "3 0 99 80 7 3 5 0 0 0 27 0 42");
        roof.course(40);
        roof.course(30);
        roof.bring(0, 5);
        checks.due("later", Checks.counts(roof), "3 2 99 80 7 3 5 27 0 90 26 3 42");
        for (int odd : ODD) {
            checks.due("count " + odd, roof.count(odd), BAD);
        }
    }
}
