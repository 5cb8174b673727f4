/** Promises 10 to 13: heap, told, joint, slate. */
public final class LooksTest {
    private static final int BAD = RoofCourses.BAD, NONE = RoofCourses.NONE;
    private static final int[] ODD = {-1, 8, 20, 60, Integer.MIN_VALUE, Integer.MAX_VALUE};
    private static final Checks checks = new Checks("LooksTest");

    public static void main(String[] args) {
        heaps();
        courses();
        joints();
        slates();
        cutsAndWaste();
        checks.end();
    }

    private static RoofCourses threeCourses() {
        RoofCourses roof = Checks.laid("h40,30,9;h40,20,9;h30,25,9;r100,80;p6,4;i2;");
        roof.course(40);
        roof.course(40);
        roof.course(30);
        return roof;
    }

    private static void heaps() {
        RoofCourses roof = threeCourses();
        checks.due("heap 0", Checks.heap(roof, 0), "40 30 5 4");
        checks.due("heap 1", Checks.heap(roof, 1), "40 20 7 2");
        checks.due("heap 2", Checks.heap(roof, 2), "30 25 5 4");
        for (int odd : ODD) {
            checks.due("heap " + odd, roof.heap(odd, 0), BAD);
            checks.due("heap 0, " + odd, roof.heap(0, odd), BAD);
        }
        checks.due("heap 3", roof.heap(3, 0), BAD);
        checks.due("heap 0, 4", roof.heap(0, 4), BAD);
        roof.up();
        checks.due("taken up", Checks.heap(roof, 2), "30 25 9 0");
    }

    private static void courses() {
        RoofCourses roof = threeCourses();
        checks.due("course 0", Checks.told(roof, 0), "40 0 17 80 3 0 6 0");
        checks.due("course 1", Checks.told(roof, 1), "40 17 17 77 3 120 11 1");
        checks.due("course 2", Checks.told(roof, 2), "30 34 12 74 4 780 -4 2");
        for (int odd : ODD) {
            checks.due("told " + odd, roof.told(odd, 0), BAD);
            checks.due("told 0, " + odd, roof.told(0, odd), BAD);
        }
        checks.due("told 3", roof.told(3, 0), BAD);
        checks.due("bad goes before none", roof.told(3, 6), BAD);
        roof.up();
        checks.due("none above any more", roof.told(1, 6), NONE);
    }

    private static void joints() {
        RoofCourses roof = threeCourses();
        checks.due("joints 0", Checks.joints(roof, 0), "30 60");
        checks.due("joints 1", Checks.joints(roof, 1), "20 50");
        checks.due("joints 2", Checks.joints(roof, 2), "25 46 71");
        checks.due("third joint of three slates", roof.joint(0, 2), NONE);
        checks.due("joint far", roof.joint(0, Integer.MAX_VALUE), NONE);
        checks.due("joint 60", roof.joint(0, 60), NONE);
        checks.due("joint -1", roof.joint(0, -1), BAD);
        checks.due("joint least", roof.joint(0, Integer.MIN_VALUE), BAD);
        checks.due("joint of no course", roof.joint(3, 0), BAD);
        checks.due("joint of no course, far", roof.joint(-1, 99), BAD);
        RoofCourses one = Checks.laid("h40,60,9;r100,50;");
        one.course(40);
        checks.due("one slate has no joint", one.joint(0, 0), NONE);
    }

    private static void slates() {
        RoofCourses roof = threeCourses();
        checks.due("slates 0", Checks.slates(roof, 0), "0:30 0:30 1:20");
        checks.due("slates 1", Checks.slates(roof, 1), "1:20 0:30 0:27");
        checks.due("slates 2", Checks.slates(roof, 2), "2:25 2:21 2:25 2:3");
        for (int what = 0; what <= 1; what++) {
            checks.due("fourth of three", roof.slate(0, 3, what), NONE);
            checks.due("slate 60", roof.slate(0, 60, what), NONE);
            checks.due("slate far", roof.slate(0, Integer.MAX_VALUE, what), NONE);
            checks.due("slate -1", roof.slate(0, -1, what), BAD);
            checks.due("slate least", roof.slate(0, Integer.MIN_VALUE, what), BAD);
            checks.due("slate of no course", roof.slate(3, 0, what), BAD);
            checks.due("slate of course -1", roof.slate(-1, 0, what), BAD);
        }
        checks.due("what 2", roof.slate(0, 0, 2), BAD);
        checks.due("what -1", roof.slate(0, 0, -1), BAD);
        checks.due("bad goes before none", roof.slate(0, 99, 2), BAD);
    }

    private static void cutsAndWaste() {
        RoofCourses roof = threeCourses();
        // Course 2: 25 cut to 21 (50 is a joint below, 46 is 4 from it), the last one to 3.
        checks.due("waste of the cut ones", roof.told(2, 5), (4 + 22) * 30);
        checks.due("waste of all", roof.count(9), 900);
    }
}
