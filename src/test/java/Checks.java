/** Counts the answers that are not as due, and has the steps that several tests take. */
final class Checks {
    private static final int MOST_PRINTED = 50;
    private final String name;
    private int asked;
    private int wrong;

    Checks(String name) {
        this.name = name;
    }

    void due(String what, long got, long want) {
        due(what, Long.toString(got), Long.toString(want));
    }

    void due(String what, String got, String want) {
        asked++;
        if (!got.equals(want)) {
            wrong++;
            if (wrong <= MOST_PRINTED) {
                System.out.println(name + ": " + what + " answered " + got + ", due is " + want);
            }
        }
    }

    void end() {
        System.out.println(name + ": " + asked + " answers, " + wrong + " wrong");
        if (asked == 0 || wrong > 0) {
            System.exit(1);
        }
    }

    static void write(RoofCourses roof, String text) {
        for (int k = 0; k < text.length(); k++) {
            roof.write(text.charAt(k));
        }
    }

    /** A roof that is laid by a text. */
    static RoofCourses laid(String text) {
        RoofCourses roof = new RoofCourses();
        write(roof, text);
        if (roof.lay() < 1) {
            throw new IllegalArgumentException("not laid: " + text);
        }
        return roof;
    }

    static int fault(String text) {
        RoofCourses roof = new RoofCourses();
        write(roof, text);
        return roof.fault();
    }

    /** The slates of a course, each as HEAP:BREADTH. */
    static String slates(RoofCourses roof, int c) {
        StringBuilder row = new StringBuilder();
        for (int k = 0; roof.slate(c, k, 0) >= 0; k++) {
            row.append(k > 0 ? " " : "").append(roof.slate(c, k, 0)).append(':').append(roof.slate(c, k, 1));
        }
        return row.toString();
    }

    static String joints(RoofCourses roof, int c) {
        StringBuilder row = new StringBuilder();
        for (int k = 0; roof.joint(c, k) >= 0; k++) {
            row.append(k > 0 ? " " : "").append(roof.joint(c, k));
        }
        return row.toString();
    }

    static String told(RoofCourses roof, int c) {
        StringBuilder row = new StringBuilder();
        for (int what = 0; what <= 7; what++) {
            row.append(what > 0 ? " " : "").append(roof.told(c, what));
        }
        return row.toString();
    }

    static String heap(RoofCourses roof, int h) {
        StringBuilder row = new StringBuilder();
        for (int what = 0; what <= 3; what++) {
            row.append(what > 0 ? " " : "").append(roof.heap(h, what));
        }
        return row.toString();
    }

    static String counts(RoofCourses roof) {
        StringBuilder row = new StringBuilder();
        for (int what = 0; what <= 12; what++) {
            row.append(what > 0 ? " " : "").append(roof.count(what));
        }
        return row.toString();
    }

    /** All that can be looked at, to see that nothing changed. */
    static String all(RoofCourses roof) {
        StringBuilder row = new StringBuilder(counts(roof));
        for (int h = 0; h < roof.count(0); h++) {
            row.append(" | ").append(heap(roof, h));
        }
        for (int c = 0; c < roof.count(1); c++) {
            row.append(" | ").append(told(roof, c)).append(" / ").append(slates(roof, c));
        }
        return row.toString();
    }

    static String repeat(String part, int times) {
        return part.repeat(times);
    }
}
