import java.util.Random;

/**
 * All promises: runs of calls by chance (of set seeds), each answer compared with the model's. An object gets no more
 * than the 512 calls for which all is promised.
 */
public final class ModelTest {
    private static final int RUNS = 1200, MOST_CALLS = 512;
    /** A text takes 200 letters and three calls; beyond this none is begun, and half the runs go on to look at all. */
    private static final int LAST_TELLING = MOST_CALLS - 203;
    private static final int[] EDGES = {Integer.MIN_VALUE, -1, 0, 1, 2, 3, 7, 8, 12, 13, 19, 20, 60, 61, 99, 100, 999,
        Integer.MAX_VALUE};
    private static final Checks checks = new Checks("ModelTest");

    private final Random chance;
    private final RoofCourses roof = new RoofCourses();
    private final Model model = new Model();
    private final int run;
    private int calls;

    private ModelTest(int run) {
        this.run = run;
        this.chance = new Random(run);
    }

    public static void main(String[] args) {
        for (int run = 0; run < RUNS; run++) {
            new ModelTest(run).go();
        }
        checks.end();
    }

    private void go() {
        if (run % 8 != 0) {
            tell(run % 8 == 1 ? faultyText() : soundText());
        }
        int enough = run % 2 == 0 ? LAST_TELLING : MOST_CALLS - 5;
        while (calls <= enough) {
            one();
        }
        lookAtAll();
        checks.due("run " + run + ", no more than 512 calls", calls <= MOST_CALLS ? 1 : 0, 1);
    }

    private int any(int low, int high) {
        return low + chance.nextInt(high - low + 1);
    }

    /** Mostly a number that is told, now and then an edge. */
    private int mostly(int low, int high) {
        return chance.nextInt(12) == 0 ? EDGES[chance.nextInt(EDGES.length)] : any(low, Math.max(low, high));
    }

    private void due(String call, int got, int want) {
        calls++;
        checks.due("run " + run + ", " + call, got, want);
    }

    private void tell(String text) {
        due("wipe", roof.wipe(), model.wipe());
        for (int k = 0; k < text.length(); k++) {
            due("write", roof.write(text.charAt(k)), model.write(text.charAt(k)));
        }
        due("fault of " + text, roof.fault(), model.fault());
        due("lay " + text, roof.lay(), model.lay());
    }

    private String soundText() {
        StringBuilder text = new StringBuilder();
        int[] lengths = {any(20, 60), any(20, 60), any(20, 60)};
        int least = any(10, 35);
        for (int k = any(2, 10); k > 0; k--) {
            int l = lengths[chance.nextInt(3)];
            text.append("h" + l + "," + any(least, chance.nextBoolean() ? 60 : least + 5) + "," + any(1, 99) + ";");
        }
        text.append("r" + any(20, 400) + "," + any(40, 240) + ";");
        text.append("p" + any(1, 10) + "," + any(1, 9) + ";");
        return chance.nextBoolean() ? text + "i" + any(0, 9) + ";" : text.toString();
    }

    private String faultyText() {
        StringBuilder text = new StringBuilder(soundText());
        String letters = "hrpi,;0123456789 ";
        for (int k = any(1, 2); k > 0; k--) {
            int at = chance.nextInt(text.length());
            char letter = letters.charAt(chance.nextInt(letters.length()));
            switch (chance.nextInt(3)) {
                case 0 -> text.deleteCharAt(at);
                case 1 -> text.insert(at, letter);
                default -> text.setCharAt(at, letter);
            }
        }
        return text.toString();
    }

    private int aLength() {
        int h = chance.nextInt(Math.max(1, model.count(0)));
        return chance.nextInt(5) == 0 ? mostly(20, 60) : model.heap(h, 0);
    }

    private void one() {
        int kind = chance.nextInt(100);
        if (kind < 40) {
            change();
        } else if (kind < 70) {
            look();
        } else if (kind < 97) {
            ask();
        } else if (kind < 99) {
            int letter = mostly(32, 126);
            due("write " + letter, roof.write(letter), model.write(letter));
        } else if (chance.nextInt(3) == 0 && calls <= LAST_TELLING) {
            tell(chance.nextBoolean() ? faultyText() : soundText());
        } else {
            due("lay", roof.lay(), model.lay());
        }
    }

    private void change() {
        int kind = chance.nextInt(20);
        if (kind < 11) {
            int l = chance.nextBoolean() ? aLength() : model.next(chance.nextInt(2));
            due("course " + l, roof.course(l), model.course(l));
        } else if (kind < 13) {
            due("up", roof.up(), model.up());
        } else if (kind < 16) {
            int h = mostly(0, model.count(0) - 1);
            int n = mostly(1, 99);
            due("bring " + h + ", " + n, roof.bring(h, n), model.bring(h, n));
        } else {
            due("undo", roof.undo(), model.undo());
        }
    }

    private void look() {
        int h = mostly(0, model.count(0) - 1);
        int c = mostly(0, model.count(1) - 1);
        int k = mostly(0, 12);
        int what = mostly(0, 3);
        due("heap " + h + ", " + what, roof.heap(h, what), model.heap(h, what));
        due("joint " + c + ", " + k, roof.joint(c, k), model.joint(c, k));
        what = mostly(0, 1);
        due("slate " + c + ", " + k + ", " + what, roof.slate(c, k, what), model.slate(c, k, what));
        what = mostly(0, 7);
        due("told " + c + ", " + what, roof.told(c, what), model.told(c, what));
        what = mostly(0, 12);
        due("count " + what, roof.count(what), model.count(what));
    }

    private void ask() {
        int how = mostly(0, 1);
        int what = mostly(0, 2);
        int l = aLength();
        due("tried " + l + ", " + what, roof.tried(l, what), model.tried(l, what));
        due("next " + how, roof.next(how), model.next(how));
        if (chance.nextInt(4) == 0) {
            due("itself " + how + ", " + what, roof.itself(how, what), model.itself(how, what));
        }
        due("fault", roof.fault(), model.fault());
    }

    /** As far as the calls reach, from a course by chance on. */
    private void lookAtAll() {
        for (int what = 0; what <= 12 && calls < MOST_CALLS; what++) {
            due("count " + what, roof.count(what), model.count(what));
        }
        int courses = model.count(1);
        int first = chance.nextInt(Math.max(1, courses));
        for (int c = 0; c < courses; c++) {
            lookAtCourse((first + c) % courses);
        }
    }

    private void lookAtCourse(int c) {
        int slates = model.told(c, 4);
        for (int k = 0; k <= slates && calls + 3 <= MOST_CALLS; k++) {
            due("slate " + c + ", " + k, roof.slate(c, k, 0), model.slate(c, k, 0));
            due("seen " + c + ", " + k, roof.slate(c, k, 1), model.slate(c, k, 1));
            due("joint " + c + ", " + k, roof.joint(c, k), model.joint(c, k));
        }
    }
}
