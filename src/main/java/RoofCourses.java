/** A roof of slates, course by course, as told in a text; README.md says how it is used. */
public final class RoofCourses {
    public static final int BAD = -1, NO = -2, FULL = -3, NONE = -4;

    private static final int SHORTEST = 20, LONGEST = 60;
    private static final int NARROWEST = 10, BROADEST = 60;
    private static final int MOST_HEAPS = 8, MOST_AT_ONCE = 99, MOST_LEFT = 999;
    private static final int LOWEST = 20, HIGHEST = 400;
    private static final int LEAST_WIDE = 40, MOST_WIDE = 240;
    private static final int MOST_LAP = 10, MOST_BREAK = 9, MOST_HIP = 9;
    private static final int LEAST_ROOM = 20;
    private static final int MOST_COURSES = 20, MOST_SLATES = 60;
    private static final int FIRST_LETTER = 32, LAST_LETTER = 126, MOST_LETTERS = 200;
    private static final int MOST_NUMBERS = 3, MOST_FIGURES = 3;
    private static final int MOST_UNDONE = 6;
    private static final int BY_NEXT = 0, BY_GREATEST = 1;

    private static final String AT_FIRST =
        "h40,30,30;h40,22,30;h40,17,9;h30,25,40;h30,18,40;h24,20,60;h24,11,30;r110,130;p6,4;i2;";

    private final Text text = new Text();
    private final Plan plan = new Plan();
    private final Plan read = new Plan();
    private final Layer layer = new Layer(plan);
    private final Roof roof = new Roof(plan);
    private final Ahead ahead = new Ahead(plan, layer, roof);
    private final Changes changes = new Changes();
    private Course trial = new Course();

    public RoofCourses() {
        for (int k = 0; k < AT_FIRST.length(); k++) {
            text.append(AT_FIRST.charAt(k));
        }
        text.readInto(plan);
        text.clear();
        roof.begin();
    }

    // ---- told

    public int write(int letter) {
        if (!isWithin(letter, FIRST_LETTER, LAST_LETTER)) {
            return BAD;
        }
        return text.append((char) letter) ? text.size : FULL;
    }

    public int wipe() {
        int size = text.size;
        text.clear();
        return size;
    }

    public int fault() {
        return text.readInto(read);
    }

    public int lay() {
        // Read aside first: a text that is not laid must leave the roof as it stands.
        if (text.readInto(read) != NONE || read.heaps == 0) {
            return NO;
        }
        plan.copy(read);
        roof.begin();
        changes.clear();
        return plan.heaps;
    }

    // ---- done

    public int course(int l) {
        if (!isWithin(l, SHORTEST, LONGEST)) {
            return BAD;
        }
        if (!fillTrial(l)) {
            return NO;
        }
        Course laid = trial;
        trial = new Course();
        roof.push(laid);
        changes.add(new Change(Change.LAID, laid, 0, 0));
        return laid.size;
    }

    public int up() {
        if (roof.size == 0) {
            return NO;
        }
        Course taken = roof.pop();
        changes.add(new Change(Change.TAKEN_UP, taken, 0, 0));
        return roof.size;
    }

    public int bring(int h, int n) {
        if (!isHeap(h) || !isWithin(n, 1, MOST_AT_ONCE)) {
            return BAD;
        }
        if (roof.left[h] + n > MOST_LEFT) {
            return FULL;
        }
        Roof.addTo(roof.left, h, n);
        changes.add(new Change(Change.BROUGHT, roof.ground, h, n));
        return roof.left[h];
    }

    public int undo() {
        Change latest = changes.takeLatest();
        if (latest == null) {
            return NO;
        }
        latest.undoOn(roof);
        return changes.size;
    }

    // ---- looked at

    public int heap(int h, int what) {
        if (!isHeap(h)) {
            return BAD;
        }
        switch (what) {
            case 0: return plan.length[h];
            case 1: return plan.breadth[h];
            case 2: return roof.left[h];
            case 3: return roof.laidOf(h);
            default: return BAD;
        }
    }

    public int told(int c, int what) {
        if (!isCourse(c)) {
            return BAD;
        }
        Course asked = roof.courses[c];
        switch (what) {
            case 0: return asked.length;
            case 1: return asked.foot;
            case 2: return asked.gauge;
            case 3: return asked.room;
            case 4: return asked.size;
            case 5: return asked.waste;
            case 6: return roof.lapHeldBy(c);
            case 7: return asked.cut;
            default: return BAD;
        }
    }

    public int joint(int c, int k) {
        if (!isCourse(c) || k < 0) {
            return BAD;
        }
        Course asked = roof.courses[c];
        return k < asked.joints() ? asked.edge[k] : NONE;
    }

    public int slate(int c, int k, int what) {
        if (!isCourse(c) || k < 0 || !isWithin(what, 0, 1)) {
            return BAD;
        }
        Course asked = roof.courses[c];
        if (k >= asked.size) {
            return NONE;
        }
        return what == 0 ? asked.heapOf[k] : asked.edge[k] - asked.startOf(k);
    }

    // ---- what is best

    public int tried(int l, int what) {
        if (!isWithin(l, SHORTEST, LONGEST) || !isWithin(what, 0, 1)) {
            return BAD;
        }
        if (!fillTrial(l)) {
            return NO;
        }
        return what == 0 ? trial.size : trial.waste;
    }

    public int next(int how) {
        if (!isWithin(how, BY_NEXT, BY_GREATEST)) {
            return BAD;
        }
        return roof.isOpen() ? ahead.choose(how, roof.left, roof.last()) : NONE;
    }

    public int itself(int how, int what) {
        if (!isWithin(how, BY_NEXT, BY_GREATEST) || !isWithin(what, 0, 2)) {
            return BAD;
        }
        ahead.go(how);
        switch (what) {
            case 0: return ahead.more;
            case 1: return ahead.waste;
            default: return ahead.ready ? 1 : 0;
        }
    }

    public int count(int what) {
        switch (what) {
            case 0: return plan.heaps;
            case 1: return roof.size;
            case 2: return plan.high;
            case 3: return plan.wide;
            case 4: return plan.lap;
            case 5: return plan.breaking;
            case 6: return plan.hip;
            case 7: return roof.last().head();
            case 8: return plan.isReadyBy(roof.last()) ? 1 : 0;
            case 9: return roof.waste();
            case 10: return roof.slatesLeft();
            case 11: return changes.size;
            case 12: return text.size;
            default: return BAD;
        }
    }

    private boolean isHeap(int h) {
        return isWithin(h, 0, plan.heaps - 1);
    }

    private boolean isCourse(int c) {
        return isWithin(c, 0, roof.size - 1);
    }

    private boolean fillTrial(int l) {
        Course below = roof.last();
        return roof.isOpen() && l <= below.length && layer.fill(trial, l, roof.left, below);
    }

    private static boolean isWithin(int n, int least, int most) {
        return n >= least && n <= most;
    }

    /** THE TEXT, and how it is read. */
    private static final class Text {
        final char[] letters = new char[MOST_LETTERS];
        final int[] numbers = new int[MOST_NUMBERS];
        int size;
        int at;

        boolean append(char letter) {
            if (size >= MOST_LETTERS) {
                return false;
            }
            letters[size] = letter;
            size++;
            return true;
        }

        void clear() {
            size = 0;
        }

        /** Answers the place of the first item that is not so, or NONE. */
        int readInto(Plan plan) {
            plan.clear();
            at = 0;
            for (int items = 0; items < MOST_LETTERS && at < size; items++) {
                int start = at;
                if (!readItem(plan)) {
                    return start;
                }
            }
            return NONE;
        }

        private boolean readItem(Plan plan) {
            char kind = letterHere();
            at++;
            int wanted = numbersOf(kind);
            for (int k = 0; k < wanted; k++) {
                numbers[k] = readNumber();
                char behind = k < wanted - 1 ? ',' : ';';
                if (numbers[k] < 0 || letterHere() != behind) {
                    return false;
                }
                at++;
            }
            return plan.take(kind, numbers[0], numbers[1], numbers[2]);
        }

        private static int numbersOf(char kind) {
            if (kind == 'h') {
                return 3;
            }
            if (kind == 'r' || kind == 'p') {
                return 2;
            }
            return kind == 'i' ? 1 : 0;
        }

        /** Stops behind the third figure: a fourth is then no , or ; and so a fault. */
        private int readNumber() {
            int number = NONE;
            for (int figures = 0; figures < MOST_FIGURES && isFigure(letterHere()); figures++) {
                number = Math.max(number, 0) * 10 + (letterHere() - '0');
                at++;
            }
            return number;
        }

        private static boolean isFigure(char letter) {
            return letter >= '0' && letter <= '9';
        }

        /** Behind the end there stands a letter that no item has. */
        private char letterHere() {
            return at < size ? letters[at] : ' ';
        }
    }

    /** What a text tells: the heaps in their order, and the measures. */
    private static final class Plan {
        final int[] length = new int[MOST_HEAPS];
        final int[] breadth = new int[MOST_HEAPS];
        final int[] slates = new int[MOST_HEAPS];
        int heaps;
        int high;
        int wide;
        int lap;
        int breaking;
        int hip;

        void clear() {
            heaps = 0;
            high = 100;
            wide = 120;
            lap = 6;
            breaking = 4;
            hip = 0;
        }

        void copy(Plan other) {
            System.arraycopy(other.length, 0, length, 0, MOST_HEAPS);
            System.arraycopy(other.breadth, 0, breadth, 0, MOST_HEAPS);
            System.arraycopy(other.slates, 0, slates, 0, MOST_HEAPS);
            heaps = other.heaps;
            high = other.high;
            wide = other.wide;
            lap = other.lap;
            breaking = other.breaking;
            hip = other.hip;
        }

        /** Answers false if an item may not have these numbers. */
        boolean take(char kind, int a, int b, int c) {
            if (kind == 'h') {
                return takeSlates(a, b, c);
            }
            if (kind == 'r') {
                return takeRoof(a, b);
            }
            if (kind == 'p') {
                return takeLap(a, b);
            }
            return kind == 'i' && takeHip(a);
        }

        private boolean takeRoof(int newHigh, int newWide) {
            high = newHigh;
            wide = newWide;
            return isWithin(high, LOWEST, HIGHEST) && isWithin(wide, LEAST_WIDE, MOST_WIDE);
        }

        private boolean takeLap(int newLap, int newBreak) {
            lap = newLap;
            breaking = newBreak;
            return isWithin(lap, 1, MOST_LAP) && isWithin(breaking, 1, MOST_BREAK);
        }

        private boolean takeHip(int newHip) {
            hip = newHip;
            return isWithin(hip, 0, MOST_HIP);
        }

        private boolean takeSlates(int l, int b, int n) {
            if (!isWithin(l, SHORTEST, LONGEST) || !isWithin(b, NARROWEST, BROADEST)
                || !isWithin(n, 1, MOST_AT_ONCE)) {
                return false;
            }
            int h = placeFor(l, b);
            if (h < heaps && length[h] == l && breadth[h] == b) {
                slates[h] += n;
                return slates[h] <= MOST_LEFT;
            }
            return insertHeap(h, l, b, n);
        }

        private int placeFor(int l, int b) {
            int h = 0;
            while (h < heaps && (length[h] > l || length[h] == l && breadth[h] > b)) {
                h++;
            }
            return h;
        }

        private boolean insertHeap(int place, int l, int b, int n) {
            if (heaps >= MOST_HEAPS) {
                return false;
            }
            for (int h = heaps; h > place; h--) {
                length[h] = length[h - 1];
                breadth[h] = breadth[h - 1];
                slates[h] = slates[h - 1];
            }
            length[place] = l;
            breadth[place] = b;
            slates[place] = n;
            heaps++;
            return true;
        }

        int gaugeOf(int l) {
            return (l - lap) / 2;
        }

        int roomAt(int foot) {
            return Math.max(LEAST_ROOM, wide - hip * foot / 10);
        }

        boolean isReadyBy(Course last) {
            return last.head() >= high;
        }
    }

    /** A course; once it is laid it does not change, so that a change can hold on to it. */
    private static final class Course {
        final int[] heapOf = new int[MOST_SLATES];
        /** Where each slate ends; but for the last one that is its joint. */
        final int[] edge = new int[MOST_SLATES];
        int length;
        int foot;
        int gauge;
        int room;
        int size;
        int waste;
        int cut;

        void begin(int newLength, int newFoot, int newGauge, int newRoom) {
            length = newLength;
            foot = newFoot;
            gauge = newGauge;
            room = newRoom;
            size = 0;
            waste = 0;
            cut = 0;
        }

        void put(int h, int breadth, int seen) {
            if (size >= MOST_SLATES) {
                return;
            }
            heapOf[size] = h;
            edge[size] = startOf(size) + seen;
            size++;
            if (seen < breadth) {
                cut++;
                waste += (breadth - seen) * length;
            }
        }

        /** The place from which the k-th slate goes on. */
        int startOf(int k) {
            return k > 0 && k <= MOST_SLATES ? edge[k - 1] : 0;
        }

        int head() {
            return foot + gauge;
        }

        int joints() {
            return Math.max(0, size - 1);
        }

        boolean isBrokenAt(int place, int breaking) {
            for (int k = 0; k < size - 1; k++) {
                if (Math.abs(edge[k] - place) < breaking) {
                    return false;
                }
            }
            return true;
        }
    }

    /** Fills a course slate by slate; the heaps it looks at stay as they are. */
    private static final class Layer {
        final Plan plan;
        final int[] rest = new int[MOST_HEAPS];

        Layer(Plan plan) {
            this.plan = plan;
        }

        /** Answers false if the course can not be laid. */
        boolean fill(Course made, int length, int[] left, Course below) {
            System.arraycopy(left, 0, rest, 0, MOST_HEAPS);
            int foot = below.head();
            made.begin(length, foot, plan.gaugeOf(length), plan.roomAt(foot));
            for (int k = 0; k < MOST_SLATES; k++) {
                int place = made.startOf(made.size);
                int ending = endingAt(place, made);
                if (ending >= 0) {
                    made.put(ending, plan.breadth[ending], made.room - place);
                    return true;
                }
                if (!putWithJoint(made, place, below)) {
                    return false;
                }
            }
            return false;
        }

        private boolean putWithJoint(Course made, int place, Course below) {
            int broken = brokenAt(place, made, below);
            if (broken >= 0) {
                rest[broken]--;
                made.put(broken, plan.breadth[broken], plan.breadth[broken]);
                return true;
            }
            int broadest = broadestFor(made);
            if (broadest < 0) {
                return false;
            }
            int seen = cutAt(place, plan.breadth[broadest], below);
            if (seen < 1) {
                return false;
            }
            rest[broadest]--;
            made.put(broadest, plan.breadth[broadest], seen);
            return true;
        }

        private boolean serves(int h, Course made) {
            return plan.length[h] == made.length && rest[h] > 0;
        }

        // Heaps of one length stand from the broadest on: the least is found from behind.
        private int endingAt(int place, Course made) {
            for (int h = plan.heaps - 1; h >= 0; h--) {
                if (serves(h, made) && place + plan.breadth[h] >= made.room) {
                    return h;
                }
            }
            return NONE;
        }

        private int brokenAt(int place, Course made, Course below) {
            for (int h = 0; h < plan.heaps; h++) {
                if (serves(h, made) && below.isBrokenAt(place + plan.breadth[h], plan.breaking)) {
                    return h;
                }
            }
            return NONE;
        }

        private int broadestFor(Course made) {
            for (int h = 0; h < plan.heaps; h++) {
                if (serves(h, made)) {
                    return h;
                }
            }
            return NONE;
        }

        private int cutAt(int place, int breadth, Course below) {
            for (int seen = breadth - 1; seen >= 1; seen--) {
                if (below.isBrokenAt(place + seen, plan.breaking)) {
                    return seen;
                }
            }
            return NONE;
        }
    }

    /** The courses that are laid, and what the heaps have left. */
    private static final class Roof {
        final Plan plan;
        final int[] left = new int[MOST_HEAPS];
        final Course[] courses = new Course[MOST_COURSES];
        /** Stands below course 0, without joints and as long as any, so that no course is a special one. */
        final Course ground = new Course();
        int size;

        Roof(Plan plan) {
            this.plan = plan;
            ground.length = LONGEST;
            for (int c = 0; c < MOST_COURSES; c++) {
                courses[c] = ground;
            }
        }

        void begin() {
            System.arraycopy(plan.slates, 0, left, 0, MOST_HEAPS);
            size = 0;
        }

        Course last() {
            return size > 0 ? courses[size - 1] : ground;
        }

        boolean isOpen() {
            return size < MOST_COURSES && !plan.isReadyBy(last());
        }

        void push(Course laid) {
            if (size >= MOST_COURSES) {
                return;
            }
            courses[size] = laid;
            size++;
            addSlates(left, laid, -1);
        }

        Course pop() {
            Course taken = last();
            if (size > 0) {
                size--;
                addSlates(left, taken, 1);
            }
            return taken;
        }

        static void addSlates(int[] left, Course of, int each) {
            for (int k = 0; k < of.size; k++) {
                addTo(left, of.heapOf[k], each);
            }
        }

        static void addTo(int[] left, int h, int slates) {
            if (isWithin(h, 0, left.length - 1)) {
                left[h] += slates;
            }
        }

        int laidOf(int h) {
            int laid = 0;
            for (int c = 0; c < size; c++) {
                Course course = courses[c];
                for (int k = 0; k < course.size; k++) {
                    if (course.heapOf[k] == h) {
                        laid++;
                    }
                }
            }
            return laid;
        }

        int lapHeldBy(int c) {
            if (c < 0 || c >= size - 1) {
                return NONE;
            }
            return courses[c].length - courses[c].gauge - courses[c + 1].gauge;
        }

        int waste() {
            int waste = 0;
            for (int c = 0; c < size; c++) {
                waste += courses[c].waste;
            }
            return waste;
        }

        int slatesLeft() {
            int sum = 0;
            for (int h = 0; h < plan.heaps; h++) {
                sum += left[h];
            }
            return sum;
        }
    }

    /** Which length is best, and the roof laid by itself, aside from the roof as it stands. */
    private static final class Ahead {
        final Plan plan;
        final Layer layer;
        final Roof roof;
        final int[] left = new int[MOST_HEAPS];
        final Course probe = new Course();
        final Course even = new Course();
        final Course odd = new Course();
        int more;
        int waste;
        boolean ready;

        Ahead(Plan plan, Layer layer, Roof roof) {
            this.plan = plan;
            this.layer = layer;
            this.roof = roof;
        }

        /** Lengths come from the greatest on, so the first is the greatest and wins where two are alike. */
        int choose(int how, int[] from, Course below) {
            int best = NONE;
            int bestWaste = 0;
            int bestGauge = 1;
            for (int h = 0; h < plan.heaps; h++) {
                int length = plan.length[h];
                boolean isNew = h == 0 || plan.length[h - 1] != length;
                if (!isNew || length > below.length || !layer.fill(probe, length, from, below)) {
                    continue;
                }
                if (how == BY_GREATEST) {
                    return length;
                }
                if (best == NONE || probe.waste * bestGauge < bestWaste * probe.gauge) {
                    best = length;
                    bestWaste = probe.waste;
                    bestGauge = probe.gauge;
                }
            }
            return best;
        }

        void go(int how) {
            System.arraycopy(roof.left, 0, left, 0, MOST_HEAPS);
            more = 0;
            waste = 0;
            Course last = roof.last();
            for (int c = roof.size; c < MOST_COURSES && !plan.isReadyBy(last); c++) {
                // Two by turns: the one below must stand while the one above it is filled.
                Course above = c % 2 == 0 ? even : odd;
                int length = choose(how, left, last);
                if (length == NONE || !layer.fill(above, length, left, last)) {
                    break;
                }
                Roof.addSlates(left, above, -1);
                more++;
                waste += above.waste;
                last = above;
            }
            ready = plan.isReadyBy(last);
        }
    }

    /** A change of the roof, and the way back. */
    private static final class Change {
        static final int LAID = 0, TAKEN_UP = 1, BROUGHT = 2;
        final int kind;
        final Course course;
        final int heapNumber;
        final int slates;

        Change(int kind, Course course, int heapNumber, int slates) {
            this.kind = kind;
            this.course = course;
            this.heapNumber = heapNumber;
            this.slates = slates;
        }

        void undoOn(Roof roof) {
            if (kind == LAID) {
                roof.pop();
            } else if (kind == TAKEN_UP) {
                roof.push(course);
            } else {
                Roof.addTo(roof.left, heapNumber, -slates);
            }
        }
    }

    /** The last changes, the latest behind. */
    private static final class Changes {
        final Change[] kept = new Change[MOST_UNDONE];
        int size;

        void clear() {
            size = 0;
        }

        void add(Change change) {
            if (size >= MOST_UNDONE) {
                for (int k = 1; k < MOST_UNDONE; k++) {
                    kept[k - 1] = kept[k];
                }
                size = MOST_UNDONE - 1;
            }
            kept[size] = change;
            size++;
        }

        /** Answers null if there is none. */
        Change takeLatest() {
            if (size <= 0) {
                return null;
            }
            size--;
            return kept[size];
        }
    }
}
