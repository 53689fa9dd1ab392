import java.util.ArrayList;
import java.util.List;

/**
 * Each refused call, with its code, in states where it is refused; where two codes could be meant, the one that the
 * call tells first; and that it changes nothing: all that can be seen of the object, what can be undone, images, trays
 * and the tape too, is the same as of one that was never asked. Questions change nothing either.
 */
public final class RefusedTest {
    private static final Due DUE = new Due();
    private static final int LEAST = Integer.MIN_VALUE;
    private static final int GREATEST = Integer.MAX_VALUE;

    private interface Call {
        long on(BothKnow x);
    }

    private interface Making {
        BothKnow make();
    }

    private final Making making;
    private final List<Long> untouched;

    private RefusedTest(Making making) {
        this.making = making;
        untouched = seen(making.make());
    }

    public static void main(String[] args) {
        RefusedTest fresh = new RefusedTest(BothKnow::new);
        fresh.houseAndDeedsOfNothing();
        fresh.comingsOfNothing();
        RefusedTest rich = new RefusedTest(RefusedTest::richObject);
        rich.house();
        rich.telling();
        rich.deeds();
        rich.trayDeeds();
        rich.comings();
        rich.comingsOfTwins();
        rich.whoWasTold();
        rich.bonds();
        rich.forcing();
        rich.trays();
        rich.images();
        rich.questions();
        RefusedTest full = new RefusedTest(RefusedTest::fullObject);
        full.fullOnes();
        faultyHouses();
        DUE.end();
    }

    // ---- the objects

    /**
     * Two facts, two doings; tray 0 is missing, 1 has deeds (one of them no telling), 2 none, 3 thirteen numbers; image 0
     * was made of another house, 1 wasn't; three calls can be undone; the tape has forty bytes; the latest house that was
     * read had a fault at place 11. Nobody can be told fact 1, so nobody can do doing 1.
     */
    private static BothKnow richObject() {
        BothKnow x = Due.told("house;fact kind 3;fact;fact;doing but 2;bond 8;comes:kind;");
        x.tell(1, 0);
        x.image(0);
        Due.read(x, "house;fact kind 1;fact;doing needs 0 age 2;doing needs 1 age 3 but 0;bond 3;knows 0 0 2;"
            + "comes:bond-2;may:not fact=1;");
        x.days(1);
        x.bond(4);
        x.tell(1, 0);
        x.numbers(1, 0, 4);
        long[] deeds = {10, -1, 100, 205};
        for (int k = 0; k < 4; k++) {
            x.write(1, k, deeds[k]);
        }
        x.numbers(2, 1, 0);
        x.numbers(3, 2, 13);
        Due.read(x, "house;bond 10;");
        Due.tape(x, "house;fact;fact;doing but 1;bond 5;");
        return x;
    }

    /** The tape is full, ten calls can be undone, each tray has forty numbers, both images were made. */
    private static BothKnow fullObject() {
        BothKnow x = Due.told("house;fact;fact;fact;fact;doing;doing;doing;doing;doing;doing needs 3 age 3;bond 9;");
        for (int k = 0; k < 4; k++) {
            x.numbers(k, k, 40);
            x.write(k, 39, 209);
        }
        x.image(0);
        for (int k = 0; k < 12; k++) {
            x.bond(k % 10);
            if (k == 5) {
                x.tell(1, 2);
                x.image(1);
            }
        }
        Due.tape(x, "house;" + " ".repeat(880) + "fact;bond 6;  ");
        return x;
    }

    // ---- what can be seen

    private static void look(BothKnow x, List<Long> all) {
        for (int what = -1; what <= 9; what++) {
            all.add((long) x.count(what));
        }
        all.add((long) x.fault(0));
        all.add((long) x.fault(1));
        for (int twin = 0; twin < 2; twin++) {
            all.add((long) x.does(twin));
            all.add((long) x.can(twin));
            all.add((long) x.overhears(twin));
            for (int fact = 0; fact < 4; fact++) {
                all.add((long) x.age(twin, fact));
                all.add((long) x.brings(twin, fact, 0));
                all.add((long) x.brings(twin, fact, 1));
            }
        }
        for (int d = 0; d < 6; d++) {
            for (int what = 0; what < 14; what++) {
                all.add((long) x.doing(d, what));
            }
        }
        all.add((long) x.stands());
        all.add((long) x.most());
        for (int tray = 0; tray < 4; tray++) {
            for (int what = 0; what < 4; what++) {
                all.add((long) x.judge(tray, what));
            }
        }
    }

    /** All that can be seen, by calls of which the later ones change the object: so it is asked for once. */
    private static List<Long> seen(BothKnow x) {
        List<Long> all = new ArrayList<>();
        look(x, all);
        for (int tray = 0; tray < 4; tray++) {
            all.add((long) x.told(tray, 0, 0));
            all.add((long) x.bonds(tray, 1, 1));
            // How many numbers, of which sort: from the last one on, whose other numbers are seen by judge().
            for (int i = 39; i >= 0; i--) {
                all.add(x.write(tray, i, 0x7766554433221180L));
                all.add((long) x.judge(tray, 0));
                all.add((long) x.judge(tray, 1));
            }
        }
        for (int k = 0; k < 11; k++) {
            all.add((long) x.undo(1));
            look(x, all);
        }
        for (int image = 0; image < 2; image++) {
            all.add((long) x.restore(image));
            look(x, all);
        }
        all.add((long) x.feed(0x20202020, 0x20202020, 0x20202020, 0x20202020, 0x20202020));
        all.add((long) x.house(x.count(7)));
        look(x, all);
        return all;
    }

    private void is(long code, String name, Call call) {
        BothKnow x = making.make();
        DUE.same(name, call.on(x), code);
        DUE.holds(name + " changes nothing", seen(x).equals(untouched));
        DUE.same(name + " behind others", call.on(asked()), code);
    }

    private void asks(String name, Call call) {
        BothKnow x = making.make();
        call.on(x);
        DUE.holds(name + " changes nothing", seen(x).equals(untouched));
    }

    /** An object that has been asked much: what it keeps of that must not be seen in an answer. */
    private BothKnow asked() {
        BothKnow x = making.make();
        look(x, new ArrayList<>());
        return x;
    }

    // ---- refused calls

    private void houseAndDeedsOfNothing() {
        DUE.says("Refused calls answer by a code and change nothing (a new object)");
        is(-3, "house(1)", x -> x.house(1));
        is(-3, "house(-1)", x -> x.house(-1));
        is(-2, "age(0, 0)", x -> x.age(0, 0));
        is(-2, "doing(0, 0)", x -> x.doing(0, 0));
        is(-2, "brings(0, 0, 0)", x -> x.brings(0, 0, 0));
        is(-11, "tell(0, 0)", x -> x.tell(0, 0));
        is(-11, "forget(0, 0)", x -> x.forget(0, 0));
        is(-11, "bond(10)", x -> x.bond(10));
        is(-3, "undo(1)", x -> x.undo(1));
        is(-3, "undo(10)", x -> x.undo(10));
        is(-6, "judge(0, 0)", x -> x.judge(0, 0));
        is(-6, "perform(3)", x -> x.perform(3));
        is(-5, "restore(0)", x -> x.restore(0));
        is(-5, "restore(1)", x -> x.restore(1));
        is(-6, "write(0, 0, 0)", x -> x.write(0, 0, 0));
        is(-1, "count(9)", x -> x.count(9));
        is(-1, "fault(2)", x -> x.fault(2));
    }

    private void comingsOfNothing() {
        is(-3, "soonest(1, 0)", x -> x.soonest(1, 0));
        is(-3, "way(0, 1, 0)", x -> x.way(0, 1, 0));
        is(-2, "alone(0, 0)", x -> x.alone(0, 0));
        is(-2, "aloneWay(0, 0, 0)", x -> x.aloneWay(0, 0, 0));
        is(-3, "rows(1, 0, 0)", x -> x.rows(1, 0, 0));
        is(-3, "needed(0, 1)", x -> x.needed(0, 1));
        is(-3, "tellings(1, 1)", x -> x.tellings(1, 1));
        is(-2, "secret(0)", x -> x.secret(0));
        is(-6, "told(0, 0, 0)", x -> x.told(0, 0, 0));
        is(-6, "bonds(0, 0, 0)", x -> x.bonds(0, 0, 0));
        is(-6, "lists(0, 0, 0)", x -> x.lists(0, 0, 0));
        is(-2, "forces(0, 0)", x -> x.forces(0, 0));
        is(-2, "best(0, 0)", x -> x.best(0, 0));
        is(-2, "chance(0, 0, 0, 0)", x -> x.chance(0, 0, 0, 0));
        is(-3, "likeliest(0, 5)", x -> x.likeliest(0, 5));
        is(-1, "likeliest(0, 4)", x -> x.likeliest(0, 4));
    }

    private void house() {
        DUE.says("Refused calls answer by a code and change nothing; Of several that which the call tells first");
        for (int n : new int[] {-1, 41, LEAST, GREATEST}) {
            is(-3, "house(" + n + ")", x -> x.house(n));
        }
        for (int bad : new int[] {-1, 2, LEAST, GREATEST}) {
            is(-2, "age(" + bad + ", 0)", x -> x.age(bad, 0));
            is(-2, "age(0, " + bad + ")", x -> x.age(0, bad));
            is(-2, "does(" + bad + ")", x -> x.does(bad));
            is(-2, "doing(" + bad + ", 0)", x -> x.doing(bad, 0));
            is(-2, "brings(" + bad + ", 0, 0)", x -> x.brings(bad, 0, 0));
            is(-2, "brings(0, " + bad + ", 0)", x -> x.brings(0, bad, 0));
            is(-2, "brings(0, 0, " + bad + ")", x -> x.brings(0, 0, bad));
            is(-2, "what ahead of the law", x -> x.brings(1, 1, bad));
            is(-2, "twin ahead of the law", x -> x.brings(bad, 1, 0));
            is(-1, "fault(" + bad + ")", x -> x.fault(bad));
        }
        for (int what : new int[] {-1, 3, 9, 12, 13, 14, LEAST, GREATEST}) {
            is(-2, "doing(0, " + what + ")", x -> x.doing(0, what));
        }
        is(-5, "brings(1, 1, 0)", x -> x.brings(1, 1, 0));
        is(-5, "brings(0, 1, 1)", x -> x.brings(0, 1, 1));
    }

    private void telling() {
        for (int bad : new int[] {-1, 2, LEAST, GREATEST}) {
            is(-11, "tell(" + bad + ", 0)", x -> x.tell(bad, 0));
            is(-11, "tell(0, " + bad + ")", x -> x.tell(0, bad));
            is(-11, "the twin ahead of the law", x -> x.tell(bad, 1));
            is(-11, "forget(" + bad + ", 0)", x -> x.forget(bad, 0));
            is(-11, "forget(0, " + bad + ")", x -> x.forget(0, bad));
            is(-11, "the twin ahead of what isn't known", x -> x.forget(bad, 1));
        }
        is(-13, "tell(1, 1)", x -> x.tell(1, 1));
        is(-13, "tell(0, 1)", x -> x.tell(0, 1));
        is(-12, "forget(0, 1)", x -> x.forget(0, 1));
        is(-12, "forget(1, 1)", x -> x.forget(1, 1));
    }

    private void deeds() {
        for (int n : new int[] {0, -1, 100, LEAST, GREATEST}) {
            is(-3, "days(" + n + ")", x -> x.days(n));
        }
        for (int n : new int[] {-1, 10, LEAST, GREATEST}) {
            is(-11, "bond(" + n + ")", x -> x.bond(n));
        }
        for (int n : new int[] {0, -1, 4, 10, 11, LEAST, GREATEST}) {
            is(-3, "undo(" + n + ")", x -> x.undo(n));
        }
        for (int n : new int[] {0, -1, 41, LEAST, GREATEST}) {
            is(-3, "year(1, " + n + ")", x -> x.year(1, n));
            is(-3, "year(" + n + ", 0)", x -> x.year(n, 0));
        }
    }

    private void trayDeeds() {
        for (int bad : new int[] {-1, 4, LEAST, GREATEST}) {
            is(-2, "judge(" + bad + ", 0)", x -> x.judge(bad, 0));
            is(-2, "judge(1, " + bad + ")", x -> x.judge(1, bad));
            is(-2, "what ahead of what is missing", x -> x.judge(0, bad));
            is(-2, "perform(" + bad + ")", x -> x.perform(bad));
        }
        is(-6, "judge(0, 0)", x -> x.judge(0, 0));
        is(-6, "judge(0, 3)", x -> x.judge(0, 3));
        is(-6, "perform(0)", x -> x.perform(0));
        is(0, "no deeds", x -> x.perform(2));
    }

    private void comings() {
        for (int bad : new int[] {4, 5, -1, LEAST, GREATEST, 1 << 16}) {
            is(-3, "soonest(" + bad + ", 0)", x -> x.soonest(bad, 0));
            is(-3, "soonest(0, " + bad + ")", x -> x.soonest(0, bad));
            is(-3, "a set ahead of NONE", x -> x.soonest(2, bad));
            is(-3, "way(" + bad + ", 0, 0)", x -> x.way(bad, 0, 0));
            is(-3, "way(0, " + bad + ", 0)", x -> x.way(0, bad, 0));
            is(-3, "a set ahead of NONE", x -> x.way(2, bad, 0));
            is(-3, "rows(" + bad + ", 0, 0)", x -> x.rows(bad, 0, 0));
            is(-3, "rows(0, " + bad + ", 0)", x -> x.rows(0, bad, 0));
            is(-3, "needed(" + bad + ", 0)", x -> x.needed(bad, 0));
            is(-3, "needed(0, " + bad + ")", x -> x.needed(0, bad));
            is(-3, "tellings(" + bad + ", 0)", x -> x.tellings(bad, 0));
            is(-3, "tellings(0, " + bad + ")", x -> x.tellings(0, bad));
            is(-3, "a set ahead of NONE", x -> x.tellings(bad, 2));
        }
        for (int i : new int[] {-1, LEAST}) {
            is(-3, "way(1, 1, " + i + ")", x -> x.way(1, 1, i));
            is(-3, "i ahead of NONE", x -> x.way(2, 2, i));
        }
        for (int n : new int[] {-1, 13, LEAST, GREATEST}) {
            is(-3, "rows(1, 1, " + n + ")", x -> x.rows(1, 1, n));
        }
        is(-1, "soonest of none", x -> x.soonest(2, 0));
        is(-1, "way of none", x -> x.way(2, 0, 0));
        is(-1, "tellings of none", x -> x.tellings(0, 2));
    }

    private void comingsOfTwins() {
        for (int bad : new int[] {-1, 2, LEAST, GREATEST}) {
            is(-2, "alone(" + bad + ", 0)", x -> x.alone(bad, 0));
            is(-2, "alone(0, " + bad + ")", x -> x.alone(0, bad));
            is(-2, "aloneWay(" + bad + ", 0, 0)", x -> x.aloneWay(bad, 0, 0));
            is(-2, "aloneWay(0, " + bad + ", 0)", x -> x.aloneWay(0, bad, 0));
            is(-2, "the twin ahead of i", x -> x.aloneWay(bad, 0, -1));
            is(-2, "the doing ahead of i", x -> x.aloneWay(0, bad, -1));
            is(-2, "can(" + bad + ")", x -> x.can(bad));
            is(-2, "secret(" + bad + ")", x -> x.secret(bad));
            is(-2, "overhears(" + bad + ")", x -> x.overhears(bad));
        }
        for (int i : new int[] {-1, LEAST}) {
            is(-3, "aloneWay(0, 0, " + i + ")", x -> x.aloneWay(0, 0, i));
            is(-3, "i ahead of NONE", x -> x.aloneWay(0, 1, i));
        }
        is(-1, "alone of none", x -> x.alone(0, 1));
        is(-1, "aloneWay of none", x -> x.aloneWay(1, 1, 0));
    }

    private void whoWasTold() {
        for (int bad : new int[] {-1, 4, LEAST, GREATEST}) {
            is(-2, "told(" + bad + ")", x -> x.told(bad, 0, 0));
            is(-2, "the tray ahead of a set", x -> x.told(bad, 4, 4));
            is(-2, "whom(" + bad + ")", x -> x.whom(bad, 0, 0, 0));
            is(-2, "the tray ahead of i", x -> x.whom(bad, 0, 0, -1));
            is(-2, "surely(" + bad + ")", x -> x.surely(bad, 0, 0, 0));
            is(-2, "the tray ahead of a set", x -> x.surely(bad, 4, 0, 0));
        }
        for (int what : new int[] {-1, 2, LEAST, GREATEST}) {
            is(-2, "surely(1, 0, 0, " + what + "): what ahead of no FACT", x -> x.surely(1, 0, 0, what));
            is(-2, "what ahead of what is missing", x -> x.surely(0, 0, 0, what));
            is(-2, "what ahead of too many", x -> x.surely(3, 0, 0, what));
            is(-2, "what ahead of a set", x -> x.surely(2, 4, 0, what));
        }
        int[] trays = {0, 1, 2, 3};
        int[] codes = {-6, -3, -4, -4};
        for (int k = 0; k < 4; k++) {
            int tray = trays[k];
            is(codes[k], "told(" + tray + ")", x -> x.told(tray, 0, 0));
            is(codes[k], "told(" + tray + ") and a set", x -> x.told(tray, 4, 0));
            is(codes[k], "told(" + tray + ") and the other set", x -> x.told(tray, 0, -1));
            is(codes[k], "whom(" + tray + ")", x -> x.whom(tray, 0, 0, 0));
            is(codes[k], "whom(" + tray + ") and i", x -> x.whom(tray, 0, 0, -1));
            is(codes[k], "surely(" + tray + ")", x -> x.surely(tray, 0, 0, 0));
            is(codes[k], "surely(" + tray + ") and a set", x -> x.surely(tray, 0, 4, 1));
        }
        BothKnow y = richObject();
        y.numbers(0, 0, 11);
        y.write(0, 3, 7);
        DUE.same("too many ahead of no FACT", y.told(0, 0, 0), -4);
        DUE.same("too many ahead of no FACT, whom", y.whom(0, 0, 0, -1), -4);
        DUE.same("too many ahead of no FACT, surely", y.surely(0, 4, 0, 0), -4);
        y.numbers(0, 0, 2);
        DUE.same("i ahead of NONE", y.whom(0, 0, 0, -1), -3);
        DUE.same("a set ahead of NONE", y.whom(0, 4, 0, 0), -3);
        DUE.same("a set ahead of 0", y.surely(0, 0, 4, 0), -3);
    }

    private void bonds() {
        for (int bad : new int[] {-1, 4, LEAST, GREATEST}) {
            is(-2, "bonds(" + bad + ")", x -> x.bonds(bad, 0, 0));
            is(-2, "the tray ahead of a set", x -> x.bonds(bad, 4, 4));
            is(-2, "attempt(" + bad + ")", x -> x.attempt(bad, 0, 0));
            is(-2, "the tray ahead of a set", x -> x.attempt(bad, 4, 4));
        }
        int[] codes = {-6, -3, -4, -4};
        for (int k = 0; k < 4; k++) {
            int tray = k;
            is(codes[k], "bonds(" + tray + ")", x -> x.bonds(tray, 0, 0));
            is(codes[k], "bonds(" + tray + ") and a set", x -> x.bonds(tray, 4, 0));
            is(codes[k], "attempt(" + tray + ")", x -> x.attempt(tray, 0, 0));
            is(codes[k], "attempt(" + tray + ") and a set", x -> x.attempt(tray, 0, -1));
        }
        BothKnow y = richObject();
        y.numbers(0, 0, 13);
        y.write(0, 3, 7);
        DUE.same("too many ahead of no TELLING", y.bonds(0, 0, 0), -4);
        DUE.same("too many ahead of no TELLING, attempt", y.attempt(0, 4, 0), -4);
        y.numbers(0, 0, 1);
        DUE.same("no BONDS", y.attempt(0, 0, 0), -1);
        DUE.same("a set ahead of NONE", y.attempt(0, 4, 0), -3);
        DUE.same("the other set ahead of NONE", y.attempt(0, 0, 4), -3);
        y.write(0, 0, 2);
        DUE.same("no TELLING ahead of NONE", y.attempt(0, 0, 0), -3);
    }

    private void forcing() {
        for (int bad : new int[] {-1, 2, LEAST, GREATEST}) {
            is(-2, "forces(" + bad + ", 0)", x -> x.forces(bad, 0));
            is(-2, "forces(0, " + bad + ")", x -> x.forces(0, bad));
            is(-2, "best(" + bad + ", 0)", x -> x.best(bad, 0));
            is(-2, "best(0, " + bad + ")", x -> x.best(0, bad));
            is(-2, "chance(" + bad + ", 0, 0, 0)", x -> x.chance(bad, 0, 0, 0));
            is(-2, "chance(0, " + bad + ", 0, 0)", x -> x.chance(0, bad, 0, 0));
            is(-2, "chance(0, 0, 0, " + bad + ")", x -> x.chance(0, 0, 0, bad));
            is(-2, "the twin ahead of n", x -> x.chance(bad, 0, 5, 0));
            is(-2, "the doing ahead of n", x -> x.chance(0, bad, -1, 0));
            is(-2, "what ahead of n", x -> x.chance(0, 0, 5, bad));
            is(-2, "likeliest(" + bad + ", 0)", x -> x.likeliest(bad, 0));
            is(-2, "the twin ahead of n", x -> x.likeliest(bad, 5));
        }
        for (int n : new int[] {-1, 5, LEAST, GREATEST}) {
            is(-3, "chance(0, 0, " + n + ", 0)", x -> x.chance(0, 0, n, 0));
            is(-3, "chance(1, 1, " + n + ", 1)", x -> x.chance(1, 1, n, 1));
            is(-3, "likeliest(1, " + n + ")", x -> x.likeliest(1, n));
        }
        is(-1, "forces of none", x -> x.forces(0, 1));
        is(-1, "best of none", x -> x.best(0, 1));
    }

    private void trays() {
        for (int bad : new int[] {-1, 4, LEAST, GREATEST}) {
            is(-2, "numbers(" + bad + ", 0, 1)", x -> x.numbers(bad, 0, 1));
            is(-2, "numbers(1, " + bad + ", 1)", x -> x.numbers(1, bad, 1));
            is(-2, "the tray ahead of n", x -> x.numbers(bad, 0, 41));
            is(-2, "the sort ahead of n", x -> x.numbers(1, bad, -1));
            is(-2, "write(" + bad + ", 0, 1)", x -> x.write(bad, 0, 1));
            is(-2, "the tray ahead of i", x -> x.write(bad, -1, 1));
            is(-7, "write(1, " + bad + ", 1)", x -> x.write(1, bad, 1));
            is(-6, "what is missing ahead of i", x -> x.write(0, bad, 1));
            is(-2, "lists(" + bad + ", 0, 0)", x -> x.lists(bad, 0, 0));
            is(-2, "the tray ahead of a set", x -> x.lists(bad, 4, 0));
            is(-3, "lists(1, " + bad + ", 0)", x -> x.lists(1, bad, 0));
            is(-3, "lists(1, 0, " + bad + ")", x -> x.lists(1, 0, bad));
            is(-6, "what is missing ahead of a set", x -> x.lists(0, bad, 0));
            is(-3, "a set ahead of none", x -> x.lists(1, 2, bad));
        }
        for (int n : new int[] {-1, 41, LEAST, GREATEST}) {
            is(-3, "numbers(1, 0, " + n + ")", x -> x.numbers(1, 0, n));
            is(-3, "numbers(0, 3, " + n + ")", x -> x.numbers(0, 3, n));
        }
        is(-7, "write(2, 0, 1)", x -> x.write(2, 0, 1));
        is(-7, "write(3, 13, 1)", x -> x.write(3, 13, 1));
        is(-6, "lists(0, 0, 0)", x -> x.lists(0, 0, 0));
        is(-5, "lists(1, 2, 0)", x -> x.lists(1, 2, 0));
        is(-5, "lists(2, 0, 2)", x -> x.lists(2, 0, 2));
    }

    private void images() {
        for (int bad : new int[] {-1, 2, LEAST, GREATEST}) {
            is(-2, "image(" + bad + ")", x -> x.image(bad));
            is(-2, "restore(" + bad + ")", x -> x.restore(bad));
        }
        is(-5, "restore(1)", x -> x.restore(1));
        for (int what : new int[] {-1, 9, LEAST, GREATEST}) {
            is(-1, "count(" + what + ")", x -> x.count(what));
        }
    }

    private void questions() {
        DUE.says("what isn't told to change doesn't");
        asks("age", x -> x.age(0, 0));
        asks("doing", x -> x.doing(0, 2));
        asks("does", x -> x.does(1));
        asks("brings", x -> x.brings(0, 0, 1));
        asks("judge", x -> x.judge(1, 0) + x.judge(1, 3));
        asks("soonest", x -> x.soonest(1, 1));
        asks("way", x -> x.way(1, 1, 0));
        asks("alone", x -> x.alone(0, 0));
        asks("aloneWay", x -> x.aloneWay(1, 0, 0));
        asks("rows", x -> x.rows(1, 1, 12));
        asks("needed", x -> x.needed(1, 1));
        asks("tellings", x -> x.tellings(1, 1));
        asks("can", x -> x.can(1));
        asks("stands", x -> x.stands());
        asks("most", x -> x.most());
        asks("secret", x -> x.secret(0));
        asks("overhears", x -> x.overhears(1));
        asks("forces", x -> x.forces(1, 0));
        asks("best", x -> x.best(1, 0));
        asks("chance", x -> x.chance(1, 0, 4, 1));
        asks("likeliest", x -> x.likeliest(1, 4));
        asks("count", x -> x.count(5));
        asks("fault", x -> x.fault(1));
    }

    private void fullOnes() {
        DUE.says("Refused calls change nothing (all is full)");
        is(-5, "feed", x -> x.feed(1, 2, 3, 4, 5));
        is(-5, "feed of blanks", x -> x.feed(0x20202020, 0x20202020, 0x20202020, 0x20202020, 0x20202020));
        is(-3, "house(901)", x -> x.house(901));
        is(-3, "house(-1)", x -> x.house(-1));
        is(-3, "undo(11)", x -> x.undo(11));
        is(-3, "undo(0)", x -> x.undo(0));
        is(-7, "write(0, 40, 0)", x -> x.write(0, 40, 0));
        is(-3, "numbers(0, 0, 41)", x -> x.numbers(0, 0, 41));
        is(-4, "told(0, 0, 0)", x -> x.told(0, 0, 0));
        is(-4, "bonds(0, 0, 0)", x -> x.bonds(0, 0, 0));
        is(-4, "whom ahead of i", x -> x.whom(1, 0, 0, -1));
        is(-11, "tell(0, 4)", x -> x.tell(0, 4));
        is(-12, "forget(0, 0)", x -> x.forget(0, 0));
        is(-2, "image(2)", x -> x.image(2));
        is(-2, "restore(2)", x -> x.restore(2));
        is(-3, "soonest(64, 0)", x -> x.soonest(64, 0));
        is(-2, "doing(6, 0)", x -> x.doing(6, 0));
        is(-2, "age(1, 4)", x -> x.age(1, 4));
    }

    /** A house with a fault: the tape is empty then, and the fault is told; all else stays. */
    private static void faultyHouses() {
        DUE.says("all stays with a FAULT; -30 less the FAULT: a text");
        String[] texts = {"house;fact;fact;fact;bond 1;knows 0 0 1;comes:0;may:1=2;doing;?", "house;fact;doing but 0;may:bond=1;",
            "house;fact;fact;doing;bond 10;", "house;doing;doing;doing;doing;doing;doing;doing;"};
        for (int kind = 1; kind <= 4; kind++) {
            for (int full = 0; full < 2; full++) {
                BothKnow x = full == 1 ? fullObject() : richObject();
                BothKnow y = full == 1 ? fullObject() : richObject();
                // An empty text leaves both with the same fault and nothing on the tape.
                x.house(0);
                y.house(0);
                look(x, new ArrayList<>());
                DUE.same(texts[kind - 1], Due.read(x, texts[kind - 1]), -30 - kind);
                DUE.same("the fault", x.fault(0), kind);
                x.house(0);
                DUE.holds("all stays with fault " + kind, seen(x).equals(seen(y)));
            }
        }
    }
}
