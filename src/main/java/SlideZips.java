import java.util.NoSuchElementException;

/**
 * Slide fasteners: what is closed, what a day's strain opens, what is worn by that, and what would
 * be if. The document (../shared/DOC.md) says what each public method promises.
 */
public final class SlideZips {
    public static final int NONE = -1;

    private static final int MOST_ZIPS = 4;
    private static final int MOST_PLACES = 16;
    private static final int MOST_STRAINS = 8;
    private static final int MOST_GRIP = 9;
    private static final int HARDEST_TOLD = 9;
    private static final int MOST_TEXT = 700;
    private static final int BYTES_A_FEED = 20;
    private static final int FURTHEST_DAY = 60;
    private static final int LAST_DAY = 999;
    private static final int MOST_DAYS_AN_ACT = 20;
    private static final int MOST_DAYS_NOTED = 20;
    private static final int MOST_WINDY_DAYS = 5;
    private static final int WINDY_STRAIN = 9;
    private static final int GREATEST_STRAIN = 99;
    private static final int DAYS_OF_A_GAME = 6;
    private static final int DAYS_TO_LOOK = 6;
    private static final int LEFT = 0;
    private static final int RIGHT = 1;
    private static final int TEXTS = 0;
    private static final int ACTS = 1;
    private static final int NOTES = 2;

    private final Parser parser;
    private int faultPlace;
    private Drawer drawer;
    private final Book book;
    private final Book kept;
    private boolean isKept;
    private final Zip[] trials;
    private final int[] row;
    private final Sewing sewing;
    private final Dice dice;

    public SlideZips() {
        parser = new Parser();
        faultPlace = NONE;
        drawer = new Drawer();
        book = new Book();
        kept = new Book();
        isKept = false;
        trials = new Zip[MOST_ZIPS];
        for (int i = 0; i < trials.length; i++) {
            trials[i] = new Zip();
        }
        row = new int[MOST_ZIPS];
        sewing = new Sewing();
        dice = new Dice();
    }

    // ---- the text ----

    public int feed(int a, int b, int c, int d, int e) {
        if (parser.tapeLength() + BYTES_A_FEED > MOST_TEXT) {
            return NONE;
        }
        parser.putBytes(a);
        parser.putBytes(b);
        parser.putBytes(c);
        parser.putBytes(d);
        parser.putBytes(e);
        return parser.tapeLength();
    }

    public int drawer(int n) throws IllegalArgumentException {
        if (n < 0 || n > parser.tapeLength()) {
            throw new IllegalArgumentException("the tape has not so many bytes");
        }
        int fault = parser.read(n);
        if (fault != 0) {
            faultPlace = parser.faultAt();
            book.refuse(TEXTS);
            return fault;
        }
        faultPlace = NONE;
        drawer = parser.exchange(drawer);
        book.dropActs();
        book.dropNotes();
        isKept = false;
        return 0;
    }

    public int fault() {
        return faultPlace;
    }

    // ---- what is so now ----

    public int count(int what) throws NoSuchElementException {
        switch (what) {
            case 0: return drawer.zipCount();
            case 1: return drawer.today();
            case 2: return drawer.strainOn(drawer.today());
            case 3: return drawer.allClosed();
            case 4: return drawer.allGrips();
            case 5: return twins();
            case 6: return book.actCount();
            case 7: return book.noteCount();
            case 8: return parser.tapeLength();
            case 9: return book.refusedOf(TEXTS);
            case 10: return book.refusedOf(ACTS);
            case 11: return book.refusedOf(NOTES);
            default: throw new NoSuchElementException("no such what");
        }
    }

    private int twins() {
        int many = 0;
        for (int i = 0; i < drawer.zipCount(); i++) {
            for (int j = i + 1; j < drawer.zipCount(); j++) {
                if (theZip(i).hasGripsOf(theZip(j))) {
                    many++;
                }
            }
        }
        return many;
    }

    public int zip(int zip, int what) throws NoSuchElementException {
        Zip it = theZip(zip);
        switch (what) {
            case 0: return it.size();
            case 1: return it.sliderHeight();
            case 2: return it.closedBits();
            case 3: return it.holding();
            case 4: return it.isCoil() ? 1 : 0;
            case 5: return it.runs();
            case 6: return it.longestRun();
            case 7: return it.lowestOfLongest();
            case 8: return it.weakest();
            case 9: return bears(it);
            default: throw new NoSuchElementException("no such what");
        }
    }

    private int bears(Zip it) {
        // The least strain by which something bursts decides, so no greater one need be tried.
        for (int strain = 0; strain <= GREATEST_STRAIN; strain++) {
            if (drawer.anyBursts(it, strain)) {
                return strain == 0 ? NONE : strain - 1;
            }
        }
        return GREATEST_STRAIN;
    }

    public int place(int zip, int place, int what) throws NoSuchElementException {
        Zip it = theZip(zip);
        checkPlace(it, place);
        switch (what) {
            case 0: return it.grip(LEFT, place);
            case 1: return it.grip(RIGHT, place);
            case 2: return it.hold(place);
            case 3: return it.isClosed(place) ? 1 : 0;
            case 4: return it.openBeside(place);
            default: throw new NoSuchElementException("no such what");
        }
    }

    public int gap(int zip) throws NoSuchElementException {
        Zip it = theZip(zip);
        return Integer.bitCount(it.holding()) - it.closedCount();
    }

    public int unlike(int zip, int other) throws NoSuchElementException {
        Zip one = theZip(zip);
        Zip two = theZip(other);
        if (one.size() != two.size()) {
            return NONE;
        }
        int sum = 0;
        for (int at = 0; at < one.size(); at++) {
            sum += Math.abs(one.grip(LEFT, at) - two.grip(LEFT, at));
            sum += Math.abs(one.grip(RIGHT, at) - two.grip(RIGHT, at));
        }
        return sum;
    }

    // ---- acts ----

    public int days(int many) {
        if (many < 1 || many > MOST_DAYS_AN_ACT || drawer.today() + many > LAST_DAY) {
            book.refuse(ACTS);
            return NONE;
        }
        book.beginAct(drawer);
        for (int i = 0; i < many; i++) {
            drawer.passToday();
        }
        return drawer.today();
    }

    public int slide(int zip, int height) throws NoSuchElementException {
        Zip it = theZip(zip);
        if (height < 0 || height > it.size()) {
            book.refuse(ACTS);
            return NONE;
        }
        book.beginAct(drawer);
        it.slideTo(height);
        return it.closedCount();
    }

    public int pinch(int zip, int tape, int place) throws NoSuchElementException {
        Zip it = theZip(zip);
        checkPlace(it, place);
        checkTape(tape);
        if (!it.mayPinch(tape, place)) {
            book.refuse(ACTS);
            return NONE;
        }
        book.beginAct(drawer);
        it.pinchTooth(tape, place);
        return it.grip(tape, place);
    }

    public boolean set(int zip, int tape, int place, int grip) throws NoSuchElementException {
        Zip it = theZip(zip);
        checkPlace(it, place);
        checkTape(tape);
        if (it.grip(tape, place) != 0 || grip < 1 || grip > MOST_GRIP) {
            book.refuse(ACTS);
            return false;
        }
        book.beginAct(drawer);
        it.putGrip(tape, place, grip);
        return true;
    }

    public boolean swap(int zip, int other) throws NoSuchElementException {
        Zip one = theZip(zip);
        Zip two = theZip(other);
        if (zip == other || one.size() != two.size()) {
            book.refuse(ACTS);
            return false;
        }
        book.beginAct(drawer);
        one.swapLeft(two);
        return true;
    }

    public int undo() {
        return book.undoAct(drawer) ? book.actCount() : NONE;
    }

    // ---- if only days go by ----

    public int then(int zip, int days, int what) throws NoSuchElementException, IllegalArgumentException {
        Zip it = trialOf(zip);
        checkWhat(what, 5);
        checkRange(days, 0, FURTHEST_DAY);
        int bursts = passDays(it, days);
        switch (what) {
            case 0: return it.closedBits();
            case 1: return it.closedCount();
            case 2: return it.gripSum();
            case 3: return it.longestRun();
            default: return bursts;
        }
    }

    public int when(int zip, int what) throws NoSuchElementException {
        Zip it = trialOf(zip);
        checkWhat(what, 3);
        return what == 2 ? daysTillGone(it) : firstBurst(it, what);
    }

    private int daysTillGone(Zip it) {
        for (int behind = 0; behind <= FURTHEST_DAY; behind++) {
            if (it.closedBits() == 0) {
                return behind;
            }
            passDay(it, behind);
        }
        return NONE;
    }

    private int firstBurst(Zip it, int what) {
        for (int ahead = 0; ahead < FURTHEST_DAY; ahead++) {
            if (passDay(it, ahead) != 0) {
                return what == 0 ? ahead + 1 : drawer.firstPlace();
            }
        }
        return NONE;
    }

    public int bursts(int zip, int place) throws NoSuchElementException {
        Zip it = trialOf(zip);
        checkPlace(it, place);
        for (int ahead = 0; ahead < FURTHEST_DAY; ahead++) {
            if ((passDay(it, ahead) >> place & 1) != 0) {
                return ahead + 1;
            }
        }
        return NONE;
    }

    public int later(int days, int what) throws NoSuchElementException, IllegalArgumentException {
        checkWhat(what, 2);
        checkRange(days, 0, FURTHEST_DAY);
        int all = 0;
        int best = NONE;
        int most = -1;
        for (int i = 0; i < drawer.zipCount(); i++) {
            Zip it = trialOf(i);
            passDays(it, days);
            all += it.closedCount();
            if (it.closedCount() > most) {
                most = it.closedCount();
                best = i;
            }
        }
        return what == 0 ? all : best;
    }

    public int calm(int days) throws IllegalArgumentException {
        checkRange(days, 1, FURTHEST_DAY);
        tryAll();
        int many = 0;
        for (int ahead = 0; ahead < days; ahead++) {
            if (passAll(ahead) == 0) {
                many++;
            }
        }
        return many;
    }

    public int worst(int days, int what) throws NoSuchElementException, IllegalArgumentException {
        checkWhat(what, 2);
        checkRange(days, 1, FURTHEST_DAY);
        tryAll();
        int most = -1;
        int day = 0;
        for (int ahead = 0; ahead < days; ahead++) {
            int bursts = passAll(ahead);
            if (bursts > most) {
                most = bursts;
                day = ahead + 1;
            }
        }
        return what == 0 ? day : most;
    }

    public int most(int zip, int days) throws NoSuchElementException, IllegalArgumentException {
        Zip it = trialOf(zip);
        checkRange(days, 0, FURTHEST_DAY);
        int most = 0;
        for (int ahead = 0; ahead < days; ahead++) {
            most = Math.max(most, Integer.bitCount(passDay(it, ahead)));
        }
        return most;
    }

    // ---- if it is run up each day; if one place were open ----

    public int daily(int zip, int days) throws NoSuchElementException, IllegalArgumentException {
        Zip it = trialOf(zip);
        checkRange(days, 0, FURTHEST_DAY);
        int bursts = 0;
        for (int ahead = 0; ahead < days; ahead++) {
            it.slideToTop();
            bursts += Integer.bitCount(passDay(it, ahead));
        }
        return bursts;
    }

    public int lasts(int zip) throws NoSuchElementException {
        Zip it = trialOf(zip);
        int whole = it.holding();
        for (int ahead = 0; ahead < FURTHEST_DAY; ahead++) {
            it.slideToTop();
            passDay(it, ahead);
            if ((whole & ~it.holding()) != 0) {
                return ahead + 1;
            }
        }
        return NONE;
    }

    public int tear(int zip, int place, int strain) throws NoSuchElementException, IllegalArgumentException {
        Zip it = trialOf(zip);
        checkPlace(it, place);
        checkRange(strain, 0, GREATEST_STRAIN);
        it.openAt(place);
        return drawer.pass(it, strain, drawer.today());
    }

    // ---- tapes ----

    public int offset(int zip, int other, int what) throws NoSuchElementException {
        Zip left = theZip(zip);
        Zip right = theZip(other);
        checkWhat(what, 2);
        int most = -1;
        int which = 0;
        for (int higher = 1 - right.size(); higher < left.size(); higher++) {
            int held = sewing.heldAt(left, right, higher);
            if (held > most) {
                most = held;
                which = higher;
            }
        }
        return what == 0 ? which : most;
    }

    public int mesh(int zip, int other, int place) throws NoSuchElementException {
        Zip left = theZip(zip);
        Zip right = theZip(other);
        if (place == NONE) {
            return sewing.meshed(left, right);
        }
        checkPlace(left, place);
        return sewing.meshedWith(left, right, place);
    }

    public int cut(int zip, int what) throws NoSuchElementException {
        Zip it = theZip(zip);
        checkWhat(what, 2);
        int which = NONE;
        int most = 0;
        for (int at = 1; at < it.size(); at++) {
            int lesser = Math.min(it.holdsBetween(0, at), it.holdsBetween(at, it.size()));
            if (which == NONE || lesser > most) {
                most = lesser;
                which = at;
            }
        }
        return what == 0 ? which : most;
    }

    public int mates(int zip) throws NoSuchElementException {
        if (zip != NONE) {
            theZip(zip);
        }
        int most = -1;
        int best = 0;
        // Two bits a left tape, the first one's highest: so rows come in their order.
        int rows = 1 << 2 * drawer.zipCount();
        for (int code = 0; code < rows; code++) {
            int held = heldByRow(code);
            if (held > most) {
                most = held;
                best = code;
            }
        }
        return zip == NONE ? most : rightOf(best, zip);
    }

    private int rightOf(int code, int left) {
        return code >> 2 * (drawer.zipCount() - 1 - left) & 3;
    }

    private int heldByRow(int code) {
        int used = 0;
        int held = 0;
        for (int i = 0; i < drawer.zipCount(); i++) {
            int j = rightOf(code, i);
            if (j >= drawer.zipCount() || (used >> j & 1) != 0 || theZip(i).size() != theZip(j).size()) {
                return NONE;
            }
            used |= 1 << j;
            held += sewing.heldAt(theZip(i), theZip(j), 0);
        }
        return held;
    }

    // ---- what to do ----

    public int toPinch(int zip, int days) throws NoSuchElementException, IllegalArgumentException {
        Zip without = trialOf(zip);
        checkRange(days, 1, FURTHEST_DAY);
        int most = closedBehind(without, days);
        int which = NONE;
        for (int at = 0; at < theZip(zip).size(); at++) {
            Zip it = trialOf(zip);
            it.pinchTooth(LEFT, at);
            it.pinchTooth(RIGHT, at);
            int closed = closedBehind(it, days);
            if (closed > most) {
                most = closed;
                which = at;
            }
        }
        return which;
    }

    public int toSlide(int zip, int days, int what) throws NoSuchElementException, IllegalArgumentException {
        Zip now = theZip(zip);
        checkWhat(what, 2);
        checkRange(days, 1, FURTHEST_DAY);
        int most = -1;
        int which = 0;
        for (int height = 0; height <= now.size(); height++) {
            Zip it = trialOf(zip);
            it.slideTo(height);
            int closed = closedBehind(it, days);
            if (closed > most) {
                most = closed;
                which = height;
            }
        }
        return what == 0 ? which : most;
    }

    public int toSet(int zip, int days) throws NoSuchElementException, IllegalArgumentException {
        Zip now = theZip(zip);
        checkRange(days, 1, FURTHEST_DAY);
        int most = -1;
        int which = NONE;
        for (int at = 0; at < now.size(); at++) {
            if (now.hold(at) == 0) {
                Zip it = trialOf(zip);
                it.setLacking(at);
                it.slideToTop();
                int closed = closedBehind(it, days);
                if (closed > most) {
                    most = closed;
                    which = at;
                }
            }
        }
        return which;
    }

    // ---- what was seen ----

    public int note(int zip, int place, int days, boolean closed) throws NoSuchElementException {
        checkPlace(theZip(zip), place);
        if (days < 0 || days > MOST_DAYS_NOTED || !book.addNote(zip, place, days, closed)) {
            book.refuse(NOTES);
            return NONE;
        }
        return book.noteCount();
    }

    public int forced(int what) throws NoSuchElementException {
        checkWhat(what, 3);
        if (what == 2) {
            return isSoWithout() ? 1 : 0;
        }
        int many = 0;
        for (int code = 0; code < 10 * drawer.strainCount(); code++) {
            if (isForced(code)) {
                if (what == 1) {
                    return code;
                }
                many++;
            }
        }
        return what == 0 ? many : NONE;
    }

    /** Whether the number code / 10 of the strain, were it code % 10, would make all that is noted so. */
    private boolean isForced(int code) {
        int which = code / 10;
        int other = code % 10;
        if (drawer.strainAt(which) == other) {
            return false;
        }
        for (int i = 0; i < drawer.zipCount(); i++) {
            if (!notedSo(i, which, other)) {
                return false;
            }
        }
        return true;
    }

    private boolean isSoWithout() {
        for (int i = 0; i < drawer.zipCount(); i++) {
            if (!notedSo(i, NONE, 0)) {
                return false;
            }
        }
        return true;
    }

    private boolean notedSo(int zip, int which, int other) {
        int last = book.lastNoted(zip);
        Zip it = trialOf(zip);
        for (int behind = 0; behind <= last; behind++) {
            if (!book.agrees(zip, behind, it.closedBits())) {
                return false;
            }
            int day = drawer.today() + behind;
            if (behind < last) {
                drawer.pass(it, drawer.strainWith(day, which, other), day);
            }
        }
        return true;
    }

    public int look(int what) throws NoSuchElementException {
        checkWhat(what, 2);
        seeNumbers();
        int most = 0;
        int which = NONE;
        for (int i = 0; i < drawer.zipCount() && i < row.length; i++) {
            int unlike = Integer.bitCount(row[i]);
            if (unlike > most) {
                most = unlike;
                which = i;
            }
        }
        return what == 0 ? which : most;
    }

    /** Leaves in the row, for each zip, which numbers of closed places there may be (bits). */
    private void seeNumbers() {
        for (int i = 0; i < row.length; i++) {
            row[i] = 0;
        }
        for (int code = 0; code < 10 * drawer.strainCount(); code++) {
            if (isForced(code)) {
                for (int i = 0; i < drawer.zipCount() && i < row.length; i++) {
                    row[i] |= 1 << closedWith(i, code / 10, code % 10);
                }
            }
        }
    }

    private int closedWith(int zip, int which, int other) {
        Zip it = trialOf(zip);
        for (int ahead = 0; ahead < DAYS_TO_LOOK; ahead++) {
            int day = drawer.today() + ahead;
            drawer.pass(it, drawer.strainWith(day, which, other), day);
        }
        return it.closedCount();
    }

    public void forget() {
        book.dropNotes();
    }

    // ---- wind, a game, years ----

    public int wind(int zip, int place, int days, int tenths) throws NoSuchElementException, IllegalArgumentException {
        checkPlace(theZip(zip), place);
        checkRange(days, 1, MOST_WINDY_DAYS);
        checkRange(tenths, 0, 10);
        int sum = 0;
        for (int windy = 0; windy < 1 << days; windy++) {
            int weight = weightOf(windy, days, tenths);
            if (weight > 0 && closedInWind(zip, place, windy, days)) {
                sum += weight;
            }
        }
        return sum;
    }

    private static int weightOf(int windy, int days, int tenths) {
        int weight = 1;
        for (int day = 0; day < days; day++) {
            weight *= (windy >> day & 1) != 0 ? tenths : 10 - tenths;
        }
        return weight;
    }

    private boolean closedInWind(int zip, int place, int windy, int days) {
        Zip it = trialOf(zip);
        for (int day = 0; day < days; day++) {
            drawer.pass(it, (windy >> day & 1) != 0 ? WINDY_STRAIN : 0, drawer.today() + day);
        }
        return it.isClosed(place);
    }

    public int game(int zip, int other, int what) throws NoSuchElementException, IllegalArgumentException {
        theZip(zip);
        theZip(other);
        checkWhat(what, 2);
        if (zip == other) {
            throw new IllegalArgumentException("both are one");
        }
        // What the other one does costs the same by either choice, so each chooses for oneself.
        int firstBySliding = ownGain(zip, 1) - ownGain(zip, 0);
        int otherBySliding = ownGain(other, 1) - ownGain(other, 0);
        int many = 0;
        int first = NONE;
        for (int a = 0; a <= 1; a++) {
            for (int b = 0; b <= 1; b++) {
                if (restsWith(a, firstBySliding) && restsWith(b, otherBySliding)) {
                    first = many == 0 ? 10 * a + b : first;
                    many++;
                }
            }
        }
        return what == 0 ? many : first;
    }

    private int ownGain(int zip, int slides) {
        Zip it = trialOf(zip);
        if (slides == 1) {
            it.slideToTop();
        }
        return 2 * closedBehind(it, DAYS_OF_A_GAME) - 3 * slides;
    }

    private static boolean restsWith(int slides, int gainBySliding) {
        return slides == 1 ? gainBySliding >= 0 : gainBySliding <= 0;
    }

    public int years(int seed, int n, int what) throws NoSuchElementException, IllegalArgumentException {
        checkWhat(what, 3);
        checkRange(n, 0, FURTHEST_DAY);
        tryAll();
        dice.take(seed);
        int bursts = 0;
        for (int ahead = 0; ahead < n; ahead++) {
            drawChange();
            bursts += passAll(ahead);
        }
        int closed = 0;
        int grips = 0;
        for (int i = 0; i < drawer.zipCount(); i++) {
            closed += trialAt(i).closedCount();
            grips += trialAt(i).gripSum();
        }
        return what == 0 ? bursts : what == 1 ? closed : grips;
    }

    private void drawChange() {
        int change = dice.draw(6);
        if (change > 2 || drawer.zipCount() == 0) {
            return;
        }
        Zip it = trialAt(dice.draw(drawer.zipCount()));
        if (change == 0) {
            it.slideToTop();
            return;
        }
        int at = dice.draw(it.size());
        int tape = dice.draw(2);
        if (change == 1) {
            it.pinchTooth(tape, at);
        } else {
            it.weakenTooth(tape, at);
        }
    }

    // ---- the image ----

    public void image() {
        book.writeNow(drawer);
        kept.copyAll(book);
        isKept = true;
    }

    public boolean restore() {
        if (!isKept) {
            return false;
        }
        book.copyAll(kept);
        book.readNow(drawer);
        return true;
    }

    // ---- what many calls need ----

    private Zip theZip(int zip) {
        if (!drawer.hasZip(zip)) {
            throw new NoSuchElementException("no such zip");
        }
        return drawer.zipAt(zip);
    }

    private static void checkPlace(Zip it, int place) {
        if (place < 0 || place >= it.size()) {
            throw new NoSuchElementException("no such place");
        }
    }

    private static void checkTape(int tape) {
        if (tape != LEFT && tape != RIGHT) {
            throw new NoSuchElementException("no such tape");
        }
    }

    private static void checkWhat(int what, int many) {
        if (what < 0 || what >= many) {
            throw new NoSuchElementException("no such what");
        }
    }

    private static void checkRange(int number, int least, int greatest) {
        if (number < least || number > greatest) {
            throw new IllegalArgumentException("a number out of its range");
        }
    }

    private Zip trialAt(int zip) {
        if (zip < 0 || zip >= trials.length) {
            throw new NoSuchElementException("no such zip");
        }
        return trials[zip];
    }

    /** A copy of a zip as it is now, on which days may be tried. */
    private Zip trialOf(int zip) {
        Zip now = theZip(zip);
        Zip trial = trialAt(zip);
        trial.copyOf(now);
        return trial;
    }

    private void tryAll() {
        for (int i = 0; i < drawer.zipCount(); i++) {
            trialOf(i);
        }
    }

    /** Lets one day go by for all copies: how many places burst. */
    private int passAll(int ahead) {
        int bursts = 0;
        for (int i = 0; i < drawer.zipCount(); i++) {
            bursts += Integer.bitCount(passDay(trialAt(i), ahead));
        }
        return bursts;
    }

    private int passDay(Zip it, int ahead) {
        int day = drawer.today() + ahead;
        return drawer.pass(it, drawer.strainOn(day), day);
    }

    private int passDays(Zip it, int days) {
        int bursts = 0;
        for (int ahead = 0; ahead < days && it.closedBits() != 0; ahead++) {
            int day = drawer.today() + ahead;
            bursts += Integer.bitCount(drawer.pass(it, drawer.strainOn(day), day));
        }
        return bursts;
    }

    private int closedBehind(Zip it, int days) {
        passDays(it, days);
        return it.closedCount();
    }

    /** One zip. Four bits of a long are a grip, so that a copy needs no row. */
    private static final class Zip {
        private int places;
        private boolean coil;
        private long left;
        private long right;
        private int closed;
        private int height;
        /** Strains (bits) by which nothing bursts as long as no grip and nothing closed changes. */
        private int harmless;

        void makeEmpty(boolean asCoil) {
            harmless = 0;
            places = 0;
            coil = asCoil;
            left = 0;
            right = 0;
            closed = 0;
            height = 0;
        }

        void makeSize(int size) {
            places = size;
        }

        void copyOf(Zip other) {
            places = other.places;
            coil = other.coil;
            left = other.left;
            right = other.right;
            closed = other.closed;
            height = other.height;
            harmless = other.harmless;
        }

        boolean isHarmless(int strain) {
            return strain < 32 && (harmless >> strain & 1) != 0;
        }

        void findHarmless(int strain) {
            if (strain < 32) {
                harmless |= 1 << strain;
            }
        }

        int size() {
            return places;
        }

        boolean isCoil() {
            return coil;
        }

        int sliderHeight() {
            return height;
        }

        int closedBits() {
            return closed;
        }

        int closedCount() {
            return Integer.bitCount(closed);
        }

        boolean isClosed(int at) {
            return (closed >> at & 1) != 0;
        }

        int grip(int tape, int at) {
            return (int) ((tape == LEFT ? left : right) >>> 4 * at) & 15;
        }

        void putGrip(int tape, int at, int grip) {
            harmless = 0;
            long others = ~(15L << 4 * at);
            long put = (long) grip << 4 * at;
            if (tape == LEFT) {
                left = left & others | put;
            } else {
                right = right & others | put;
            }
        }

        int hold(int at) {
            return Math.min(grip(LEFT, at), grip(RIGHT, at));
        }

        int holding() {
            int bits = 0;
            for (int at = 0; at < places; at++) {
                if ((left >>> 4 * at & 15) != 0 && (right >>> 4 * at & 15) != 0) {
                    bits |= 1 << at;
                }
            }
            return bits;
        }

        int holdsBetween(int from, int to) {
            int sum = 0;
            for (int at = from; at < to; at++) {
                sum += hold(at);
            }
            return sum;
        }

        int gripSum() {
            int sum = 0;
            for (int at = 0; at < places; at++) {
                sum += grip(LEFT, at) + grip(RIGHT, at);
            }
            return sum;
        }

        boolean hasGripsOf(Zip other) {
            return places == other.places && left == other.left && right == other.right;
        }

        int openBeside(int at) {
            int open = 0;
            if (at > 0 && !isClosed(at - 1)) {
                open++;
            }
            if (at + 1 < places && !isClosed(at + 1)) {
                open++;
            }
            return open;
        }

        void slideTo(int to) {
            harmless = 0;
            height = to;
            closed = holding() & (1 << to) - 1;
        }

        void slideToTop() {
            slideTo(places);
        }

        void openAt(int at) {
            harmless = 0;
            closed &= ~(1 << at);
        }

        boolean mayPinch(int tape, int at) {
            return grip(tape, at) > 0 && grip(tape, at) < MOST_GRIP;
        }

        void pinchTooth(int tape, int at) {
            if (mayPinch(tape, at)) {
                putGrip(tape, at, grip(tape, at) + 1);
            }
        }

        void weakenTooth(int tape, int at) {
            if (grip(tape, at) > 0) {
                putGrip(tape, at, grip(tape, at) - 1);
            }
            if (hold(at) == 0) {
                openAt(at);
            }
        }

        void wearAt(int at, int less) {
            putGrip(LEFT, at, Math.max(0, grip(LEFT, at) - less));
            putGrip(RIGHT, at, Math.max(0, grip(RIGHT, at) - less));
        }

        void setLacking(int at) {
            if (grip(LEFT, at) == 0) {
                putGrip(LEFT, at, MOST_GRIP);
            }
            if (grip(RIGHT, at) == 0) {
                putGrip(RIGHT, at, MOST_GRIP);
            }
        }

        void swapLeft(Zip other) {
            long mine = left;
            left = other.left;
            other.left = mine;
            slideTo(0);
            other.slideTo(0);
        }

        int runs() {
            return Integer.bitCount(closed & ~(closed << 1));
        }

        int longestRun() {
            int longest = 0;
            int run = 0;
            for (int at = 0; at < places; at++) {
                run = isClosed(at) ? run + 1 : 0;
                longest = Math.max(longest, run);
            }
            return longest;
        }

        int lowestOfLongest() {
            int longest = longestRun();
            int run = 0;
            for (int at = 0; at < places; at++) {
                run = isClosed(at) ? run + 1 : 0;
                if (run > 0 && run == longest) {
                    return at - run + 1;
                }
            }
            return NONE;
        }

        int weakest() {
            int which = NONE;
            int least = MOST_GRIP + 1;
            for (int at = 0; at < places; at++) {
                if (isClosed(at) && hold(at) < least) {
                    least = hold(at);
                    which = at;
                }
            }
            return which;
        }

        int stateBits() {
            return closed | height << MOST_PLACES;
        }

        void takeState(long leftGrips, long rightGrips, int bits) {
            harmless = 0;
            left = leftGrips;
            right = rightGrips;
            closed = bits & (1 << MOST_PLACES) - 1;
            height = bits >> MOST_PLACES;
        }

        long leftGrips() {
            return left;
        }

        long rightGrips() {
            return right;
        }
    }

    /**
     * An expression as a stretch of a row of steps for a stack: a number from 0 up, or one of the signs
     * below. The row is its drawer's, so that both rules together need no more than one text has.
     */
    private static final class Rule {
        static final int STRAIN = -1;
        static final int PLACE = -2;
        static final int HOLD = -3;
        static final int DAY = -4;
        /** Open neighbours for what pulls, bursts for what wears. */
        static final int OWN = -5;
        static final int NOT = -6;
        static final int OR = -7;
        static final int AND = -8;
        static final int LESS = -9;
        static final int EQUAL = -10;
        static final int PLUS = -11;
        static final int MINUS = -12;
        static final int TIMES = -13;
        static final int OVER = -14;
        /** Six nested expressions leave at most five numbers waiting each. */
        private static final int DEEPEST = 40;

        private int from;
        private int to;
        private boolean told;
        private boolean ofDay;
        private final int[] stack;

        Rule() {
            from = 0;
            to = 0;
            told = false;
            ofDay = false;
            stack = new int[DEEPEST];
        }

        void untell() {
            told = false;
            ofDay = false;
        }

        boolean isTold() {
            return told;
        }

        void tell(int[] steps, int first, int behind) {
            from = first;
            to = behind;
            told = true;
            for (int i = Math.max(0, from); i < to && i < steps.length; i++) {
                ofDay = ofDay || steps[i] == DAY;
            }
        }

        /** Whether it may answer otherwise on another day. */
        boolean asksForDay() {
            return ofDay;
        }

        int value(int[] steps, int strain, int place, int hold, int day, int own) {
            int top = 0;
            for (int i = Math.max(0, from); i < to && i < steps.length; i++) {
                int step = steps[i];
                if (step > NOT) {
                    if (top >= stack.length) {
                        return 0;
                    }
                    switch (step) {
                        case STRAIN: stack[top] = strain; break;
                        case PLACE: stack[top] = place; break;
                        case HOLD: stack[top] = hold; break;
                        case DAY: stack[top] = day; break;
                        case OWN: stack[top] = own; break;
                        default: stack[top] = step;
                    }
                    top++;
                } else if (step == NOT) {
                    if (top >= 1) {
                        stack[top - 1] = stack[top - 1] == 0 ? 1 : 0;
                    }
                } else if (top >= 2) {
                    top--;
                    stack[top - 1] = joined(step, stack[top - 1], stack[top]);
                }
            }
            return stack[0];
        }

        private static int joined(int step, int a, int b) {
            switch (step) {
                case OR: return a != 0 || b != 0 ? 1 : 0;
                case AND: return a != 0 && b != 0 ? 1 : 0;
                case LESS: return a < b ? 1 : 0;
                case EQUAL: return a == b ? 1 : 0;
                case PLUS: return a + b;
                case MINUS: return a - b;
                case TIMES: return a * b;
                default: return b == 0 ? 0 : a / b;
            }
        }
    }

    /** What a text told, with the zips as they are now. */
    private static final class Drawer {
        private static final int USUAL_STRAIN = 4;
        private static final int MOST_PULL = 99;
        private static final int MOST_WEAR = 9;

        private final Zip[] zips;
        private int count;
        private final int[] strain;
        private int strains;
        private final int[] steps;
        private int stepCount;
        private final Rule pulls;
        private final Rule wears;
        private int day;
        private int first;

        Drawer() {
            zips = new Zip[MOST_ZIPS];
            for (int i = 0; i < zips.length; i++) {
                zips[i] = new Zip();
            }
            count = 0;
            strain = new int[MOST_STRAINS];
            strains = 0;
            steps = new int[MOST_TEXT];
            stepCount = 0;
            pulls = new Rule();
            wears = new Rule();
            day = 0;
            first = NONE;
        }

        void makeEmpty() {
            count = 0;
            strains = 0;
            stepCount = 0;
            pulls.untell();
            wears.untell();
            day = 0;
        }

        boolean isFull() {
            return count < 0 || count >= zips.length;
        }

        /** The next zip, which counts only when it is added. */
        Zip nextZip() {
            return count >= 0 && count < zips.length ? zips[count] : zips[0];
        }

        void addZip() {
            if (!isFull()) {
                nextZip().slideToTop();
                count++;
            }
        }

        boolean addStrain(int number) {
            if (strains < 0 || strains >= strain.length) {
                return false;
            }
            strain[strains] = number;
            strains++;
            return true;
        }

        void addStep(int step) {
            if (stepCount >= 0 && stepCount < steps.length) {
                steps[stepCount] = step;
                stepCount++;
            }
        }

        int stepCount() {
            return stepCount;
        }

        boolean isTold(boolean ofPulls) {
            return (ofPulls ? pulls : wears).isTold();
        }

        /** The steps from a first one on are what pulls, or what wears. */
        void tell(boolean ofPulls, int firstStep) {
            (ofPulls ? pulls : wears).tell(steps, firstStep, stepCount);
        }

        int zipCount() {
            return count;
        }

        boolean hasZip(int zip) {
            return zip >= 0 && zip < count && zip < zips.length;
        }

        /** Asked only of a zip that there is; the first one stands in, so that no index fails. */
        Zip zipAt(int zip) {
            return zip >= 0 && zip < zips.length ? zips[zip] : zips[0];
        }

        int today() {
            return day;
        }

        void turnTo(int newDay) {
            day = newDay;
        }

        int strainCount() {
            return strains;
        }

        int strainAt(int which) {
            return which >= 0 && which < strains && which < strain.length ? strain[which] : USUAL_STRAIN;
        }

        int strainOn(int aDay) {
            return strainWith(aDay, NONE, 0);
        }

        /** The strain of a day, if one of the numbers were another one (which NONE: as told). */
        int strainWith(int aDay, int which, int other) {
            if (strains <= 0) {
                return USUAL_STRAIN;
            }
            int at = aDay % strains;
            return at == which ? other : strainAt(at);
        }

        int allClosed() {
            int sum = 0;
            for (int i = 0; i < count; i++) {
                sum += zipAt(i).closedCount();
            }
            return sum;
        }

        int allGrips() {
            int sum = 0;
            for (int i = 0; i < count; i++) {
                sum += zipAt(i).gripSum();
            }
            return sum;
        }

        void passToday() {
            for (int i = 0; i < count; i++) {
                pass(zipAt(i), strainOn(day), day);
            }
            day++;
        }

        /** Lets a day go by for one zip: which places burst (bits). */
        int pass(Zip it, int hard, int aDay) {
            int burst = 0;
            first = NONE;
            // Most days of a long trial change nothing: what held by this strain holds by it again.
            boolean again = it.closedBits() != 0 && !it.isHarmless(hard);
            // Each round but the last opens a place, which bounds them.
            for (int round = 0; again && round <= MOST_PLACES; round++) {
                again = false;
                for (int at = 0; at < it.size(); at++) {
                    if (it.isClosed(at) && pullOn(it, at, hard, aDay) > it.hold(at)) {
                        first = burst == 0 ? at : first;
                        burstAt(it, at, hard, aDay, Integer.bitCount(burst));
                        burst |= 1 << at;
                        again = true;
                    }
                }
            }
            if (burst == 0 && !pulls.asksForDay()) {
                it.findHarmless(hard);
            }
            return burst;
        }

        /** Which place was the first to burst on the latest day that went by; NONE if none did. */
        int firstPlace() {
            return first;
        }

        boolean anyBursts(Zip it, int hard) {
            for (int at = 0; at < it.size(); at++) {
                if (it.isClosed(at) && pullOn(it, at, hard, day) > it.hold(at)) {
                    return true;
                }
            }
            return false;
        }

        private int pullOn(Zip it, int at, int hard, int aDay) {
            int open = it.openBeside(at);
            int pull = pulls.isTold() ? pulls.value(steps, hard, at, it.hold(at), aDay, open) : hard + 2 * open;
            return Math.max(0, Math.min(MOST_PULL, pull));
        }

        private void burstAt(Zip it, int at, int hard, int aDay, int ahead) {
            if (!it.isCoil()) {
                int less = wears.isTold() ? wears.value(steps, hard, at, it.hold(at), aDay, ahead) : 1;
                it.wearAt(at, Math.max(0, Math.min(MOST_WEAR, less)));
            }
            it.openAt(at);
        }
    }

    /** Acts that are kept, what is noted, what was refused. */
    private static final class Book {
        private static final int MOST_ACTS = 40;
        private static final int MOST_NOTES = 8;
        /** Three numbers a zip, and the day. */
        private static final int PAGE = 3 * MOST_ZIPS + 1;

        private final long[] acts;
        private int actCount;
        private final int[] notes;
        private int noteCount;
        private final int[] refused;
        private final long[] now;

        Book() {
            acts = new long[MOST_ACTS * PAGE];
            actCount = 0;
            notes = new int[MOST_NOTES];
            noteCount = 0;
            refused = new int[3];
            now = new long[PAGE];
        }

        int actCount() {
            return actCount;
        }

        int noteCount() {
            return noteCount;
        }

        int refusedOf(int kind) {
            return kind >= 0 && kind < refused.length ? refused[kind] : 0;
        }

        void refuse(int kind) {
            if (kind >= 0 && kind < refused.length) {
                refused[kind]++;
            }
        }

        void dropActs() {
            actCount = 0;
        }

        void dropNotes() {
            noteCount = 0;
        }

        /** Keeps what is so ahead of an act; the oldest one gives way. */
        void beginAct(Drawer drawer) {
            if (actCount >= MOST_ACTS) {
                System.arraycopy(acts, PAGE, acts, 0, (MOST_ACTS - 1) * PAGE);
                actCount = MOST_ACTS - 1;
            }
            write(drawer, acts, actCount * PAGE);
            actCount++;
        }

        boolean undoAct(Drawer drawer) {
            if (actCount <= 0) {
                return false;
            }
            actCount--;
            read(drawer, acts, actCount * PAGE);
            return true;
        }

        void writeNow(Drawer drawer) {
            write(drawer, now, 0);
        }

        void readNow(Drawer drawer) {
            read(drawer, now, 0);
        }

        private static void write(Drawer drawer, long[] into, int from) {
            if (from < 0 || from + PAGE > into.length) {
                return;
            }
            for (int i = 0; i < drawer.zipCount() && i < MOST_ZIPS; i++) {
                Zip it = drawer.zipAt(i);
                into[from + 3 * i] = it.leftGrips();
                into[from + 3 * i + 1] = it.rightGrips();
                into[from + 3 * i + 2] = it.stateBits();
            }
            into[from + PAGE - 1] = drawer.today();
        }

        private static void read(Drawer drawer, long[] out, int from) {
            if (from < 0 || from + PAGE > out.length) {
                return;
            }
            for (int i = 0; i < drawer.zipCount() && i < MOST_ZIPS; i++) {
                int bits = (int) out[from + 3 * i + 2];
                drawer.zipAt(i).takeState(out[from + 3 * i], out[from + 3 * i + 1], bits);
            }
            drawer.turnTo((int) out[from + PAGE - 1]);
        }

        void copyAll(Book other) {
            System.arraycopy(other.acts, 0, acts, 0, acts.length);
            actCount = other.actCount;
            System.arraycopy(other.notes, 0, notes, 0, notes.length);
            noteCount = other.noteCount;
            System.arraycopy(other.refused, 0, refused, 0, refused.length);
            System.arraycopy(other.now, 0, now, 0, now.length);
        }

        /** A note is one number: closed a bit, days five, the place four, the zip above. */
        boolean addNote(int zip, int place, int days, boolean closed) {
            if (noteCount < 0 || noteCount >= notes.length) {
                return false;
            }
            notes[noteCount] = zip << 10 | place << 6 | days << 1 | (closed ? 1 : 0);
            noteCount++;
            return true;
        }

        /** Behind how many days the latest thing of a zip is noted; NONE if nothing is. */
        int lastNoted(int zip) {
            int last = NONE;
            for (int i = 0; i < noteCount && i < notes.length; i++) {
                if (notes[i] >> 10 == zip) {
                    last = Math.max(last, notes[i] >> 1 & 31);
                }
            }
            return last;
        }

        /** Whether all that is noted of a zip behind so many days is so by these closed places. */
        boolean agrees(int zip, int days, int closedBits) {
            for (int i = 0; i < noteCount && i < notes.length; i++) {
                int note = notes[i];
                boolean concerns = note >> 10 == zip && (note >> 1 & 31) == days;
                if (concerns && (closedBits >> (note >> 6 & 15) & 1) != (note & 1)) {
                    return false;
                }
            }
            return true;
        }
    }

    /** How a left tape and a right one fit together. */
    private static final class Sewing {
        private static final int WIDTH = MOST_PLACES + 1;

        /** The most that is held by left places from the first index up and right ones from the second. */
        private final int[] held;

        Sewing() {
            held = new int[WIDTH * WIDTH];
        }

        private static int holdOf(Zip left, int i, Zip right, int j) {
            return Math.min(left.grip(LEFT, i), right.grip(RIGHT, j));
        }

        int heldAt(Zip left, Zip right, int higher) {
            int sum = 0;
            for (int j = 0; j < right.size(); j++) {
                if (j + higher >= 0 && j + higher < left.size()) {
                    sum += holdOf(left, j + higher, right, j);
                }
            }
            return sum;
        }

        private int heldFrom(int i, int j) {
            int at = i * WIDTH + j;
            return at >= 0 && at < held.length ? held[at] : 0;
        }

        private void putHeld(int i, int j, int sum) {
            int at = i * WIDTH + j;
            if (at >= 0 && at < held.length) {
                held[at] = sum;
            }
        }

        int meshed(Zip left, Zip right) {
            for (int i = left.size(); i >= 0; i--) {
                for (int j = right.size(); j >= 0; j--) {
                    int most = 0;
                    if (i < left.size() && j < right.size()) {
                        most = Math.max(heldFrom(i + 1, j), heldFrom(i, j + 1));
                        most = Math.max(most, holdOf(left, i, right, j) + heldFrom(i + 1, j + 1));
                    }
                    putHeld(i, j, most);
                }
            }
            return heldFrom(0, 0);
        }

        int meshedWith(Zip left, Zip right, int place) {
            meshed(left, right);
            int free = 0;
            int with = NONE;
            for (int i = 0; i <= place && i < left.size(); i++) {
                with = firstPartner(left, right, i, free);
                if (with != NONE) {
                    free = with + 1;
                }
            }
            return with;
        }

        /** The lowest right place from the free one up by which nothing of the most is lost. */
        private int firstPartner(Zip left, Zip right, int i, int free) {
            for (int j = free; j < right.size(); j++) {
                int hold = holdOf(left, i, right, j);
                if (hold > 0 && hold + heldFrom(i + 1, j + 1) == heldFrom(i, free)) {
                    return j;
                }
            }
            return NONE;
        }
    }

    /** Draws by a seed. */
    private static final class Dice {
        private int seed;

        void take(int newSeed) {
            seed = newSeed;
        }

        int draw(int many) {
            seed = seed * 1103515245 + 12345;
            return many > 0 ? (seed >>> 16 & 0x7fff) % many : 0;
        }
    }

    /** The tape, and what reads it into a drawer, token by token, up to the first fault. */
    private static final class Parser {
        private static final int END = 0;
        private static final int WORD = 1;
        private static final int NUMBER = 2;
        private static final int SIGN = 3;
        private static final int NO_TOKEN = 4;

        private static final int MISPLACED = 1;
        private static final int TOO_MUCH = 2;
        private static final int NO_VALUE = 3;
        private static final int TOLD_TWICE = 5;

        private static final int MOST_DIGITS = 4;
        private static final int TOO_LONG = 10000;
        private static final int DEEPEST = 6;
        private static final int MOST_NOTS = 6;
        private static final int NONE_SUCH = -99;

        private final byte[] tape;
        private int tapeLength;
        private int length;
        private int kind;
        private int start;
        private int behind;
        private int fault;
        /** Not the drawer in use, which must stay as it is if there is a fault. */
        private Drawer into;
        private boolean ofPulls;

        Parser() {
            tape = new byte[MOST_TEXT];
            tapeLength = 0;
            length = 0;
            kind = END;
            start = 0;
            behind = 0;
            fault = 0;
            into = new Drawer();
            ofPulls = false;
        }

        int tapeLength() {
            return tapeLength;
        }

        void putBytes(int four) {
            for (int shift = 24; shift >= 0; shift -= 8) {
                if (tapeLength >= 0 && tapeLength < tape.length) {
                    tape[tapeLength] = (byte) (four >> shift);
                    tapeLength++;
                }
            }
        }

        /** Gives the drawer that was read, and takes the one in use till now for the next text. */
        Drawer exchange(Drawer old) {
            Drawer read = into;
            into = old;
            return read;
        }

        /** All faults are found at the token that is looked at, so its start is the fault's place. */
        int faultAt() {
            return start;
        }

        int read(int many) {
            length = Math.max(0, Math.min(many, tape.length));
            tapeLength = 0;
            behind = 0;
            fault = 0;
            into.makeEmpty();
            advance();
            for (int lines = 0; lines <= MOST_TEXT && kind != END; lines++) {
                if (!line()) {
                    return fault;
                }
            }
            return 0;
        }

        // -- tokens --

        private int byteAt(int at) {
            return at >= 0 && at < length && at < tape.length ? tape[at] : 0;
        }

        private static boolean isLetter(int sign) {
            return sign >= 'a' && sign <= 'z';
        }

        private static boolean isDigit(int sign) {
            return sign >= '0' && sign <= '9';
        }

        private static boolean isBlank(int sign) {
            return sign == ' ' || sign == '\n';
        }

        private void advance() {
            start = behind;
            while (start < length && isBlank(byteAt(start))) {
                start++;
            }
            behind = start;
            int sign = byteAt(start);
            if (start >= length) {
                kind = END;
            } else if (isLetter(sign)) {
                kind = WORD;
                while (behind < length && isLetter(byteAt(behind))) {
                    behind++;
                }
            } else if (isDigit(sign)) {
                kind = NUMBER;
                while (behind < length && isDigit(byteAt(behind))) {
                    behind++;
                }
            } else {
                kind = ";()+-*/<=".indexOf((char) (sign & 255)) >= 0 ? SIGN : NO_TOKEN;
                behind++;
            }
        }

        /** What the digits of a number say; TOO_LONG if they are too many. */
        private int number() {
            if (behind - start > MOST_DIGITS) {
                return TOO_LONG;
            }
            int number = 0;
            for (int at = start; at < behind; at++) {
                number = number * 10 + byteAt(at) - '0';
            }
            return number;
        }

        private boolean isWord(String word) {
            if (kind != WORD || behind - start != word.length()) {
                return false;
            }
            for (int i = 0; i < word.length(); i++) {
                if (byteAt(start + i) != word.charAt(i)) {
                    return false;
                }
            }
            return true;
        }

        private boolean isSign(char sign) {
            return kind == SIGN && byteAt(start) == sign;
        }

        private boolean fail(int which) {
            fault = which;
            return false;
        }

        private boolean takeSign(char sign) {
            if (!isSign(sign)) {
                return fail(MISPLACED);
            }
            advance();
            return true;
        }

        // -- lines --

        private boolean line() {
            if (isWord("zip")) {
                return zipLine(false);
            }
            if (isWord("coil")) {
                return zipLine(true);
            }
            if (isWord("strain")) {
                return strainLine();
            }
            if (isWord("pulls")) {
                return ruleLine(true);
            }
            if (isWord("wears")) {
                return ruleLine(false);
            }
            return fail(MISPLACED);
        }

        private boolean zipLine(boolean coil) {
            if (into.isFull()) {
                return fail(TOO_MUCH);
            }
            Zip it = into.nextZip();
            it.makeEmpty(coil);
            advance();
            if (!leftTape(it) || !rightTape(it) || !takeSign(';')) {
                return false;
            }
            into.addZip();
            return true;
        }

        private boolean leftTape(Zip it) {
            for (int grips = 0; grips <= MOST_PLACES; grips++) {
                if (grips > 0 && isWord("to")) {
                    it.makeSize(grips);
                    advance();
                    return true;
                }
                if (kind != NUMBER) {
                    return fail(MISPLACED);
                }
                if (grips == MOST_PLACES || number() > MOST_GRIP) {
                    return fail(TOO_MUCH);
                }
                it.putGrip(LEFT, grips, number());
                advance();
            }
            return fail(MISPLACED);
        }

        private boolean rightTape(Zip it) {
            for (int at = 0; at < it.size(); at++) {
                if (kind != NUMBER) {
                    return fail(MISPLACED);
                }
                if (number() > MOST_GRIP) {
                    return fail(TOO_MUCH);
                }
                it.putGrip(RIGHT, at, number());
                advance();
            }
            return true;
        }

        private boolean strainLine() {
            if (into.strainCount() > 0) {
                return fail(TOLD_TWICE);
            }
            advance();
            for (int many = 0; many <= MOST_STRAINS; many++) {
                if (many > 0 && isSign(';')) {
                    advance();
                    return true;
                }
                if (kind != NUMBER) {
                    return fail(MISPLACED);
                }
                if (number() > HARDEST_TOLD || !into.addStrain(number())) {
                    return fail(TOO_MUCH);
                }
                advance();
            }
            return fail(MISPLACED);
        }

        private boolean ruleLine(boolean pulls) {
            if (into.isTold(pulls)) {
                return fail(TOLD_TWICE);
            }
            ofPulls = pulls;
            advance();
            int from = into.stepCount();
            if (!anyOf(0) || !takeSign(';')) {
                return false;
            }
            into.tell(pulls, from);
            return true;
        }

        // -- expressions; within: how many others one stands in --

        private boolean anyOf(int within) {
            if (within >= DEEPEST) {
                return fail(mayBegin() ? TOO_MUCH : MISPLACED);
            }
            if (!allOf(within)) {
                return false;
            }
            for (int i = 0; i < MOST_TEXT && isWord("or"); i++) {
                advance();
                if (!allOf(within)) {
                    return false;
                }
                into.addStep(Rule.OR);
            }
            return true;
        }

        private boolean mayBegin() {
            return kind == NUMBER || kind == WORD || isSign('(');
        }

        private boolean allOf(int within) {
            if (!negation(within)) {
                return false;
            }
            for (int i = 0; i < MOST_TEXT && isWord("and"); i++) {
                advance();
                if (!negation(within)) {
                    return false;
                }
                into.addStep(Rule.AND);
            }
            return true;
        }

        private boolean negation(int within) {
            int nots = 0;
            while (nots < MOST_NOTS && isWord("not")) {
                nots++;
                advance();
            }
            if (isWord("not")) {
                return fail(TOO_MUCH);
            }
            if (!comparison(within)) {
                return false;
            }
            for (int i = 0; i < nots; i++) {
                into.addStep(Rule.NOT);
            }
            return true;
        }

        private boolean comparison(int within) {
            if (!sum(within)) {
                return false;
            }
            if (!isSign('<') && !isSign('=')) {
                return true;
            }
            int step = isSign('<') ? Rule.LESS : Rule.EQUAL;
            advance();
            if (!sum(within)) {
                return false;
            }
            into.addStep(step);
            return true;
        }

        private boolean sum(int within) {
            if (!product(within)) {
                return false;
            }
            for (int i = 0; i < MOST_TEXT && (isSign('+') || isSign('-')); i++) {
                int step = isSign('+') ? Rule.PLUS : Rule.MINUS;
                advance();
                if (!product(within)) {
                    return false;
                }
                into.addStep(step);
            }
            return true;
        }

        private boolean product(int within) {
            if (!part(within)) {
                return false;
            }
            for (int i = 0; i < MOST_TEXT && (isSign('*') || isSign('/')); i++) {
                int step = isSign('*') ? Rule.TIMES : Rule.OVER;
                advance();
                if (!part(within)) {
                    return false;
                }
                into.addStep(step);
            }
            return true;
        }

        private boolean part(int within) {
            if (isSign('(')) {
                advance();
                return anyOf(within + 1) && takeSign(')');
            }
            if (kind != NUMBER && kind != WORD) {
                return fail(MISPLACED);
            }
            int step = kind == NUMBER ? number() : valueStep();
            if (step >= TOO_LONG) {
                return fail(TOO_MUCH);
            }
            if (step == NONE_SUCH) {
                return fail(NO_VALUE);
            }
            into.addStep(step);
            advance();
            return true;
        }

        private int valueStep() {
            if (isWord("strain")) {
                return Rule.STRAIN;
            }
            if (isWord("place")) {
                return Rule.PLACE;
            }
            if (isWord("hold")) {
                return Rule.HOLD;
            }
            if (isWord("day")) {
                return Rule.DAY;
            }
            return isWord(ofPulls ? "open" : "bursts") ? Rule.OWN : NONE_SUCH;
        }
    }
}
