/** Promises 9 to 16: telling, days, forgetting, the bond, undoing, told deeds, years. */
public final class DeedsTest {
    private static final Due DUE = new Due();

    public static void main(String[] args) {
        telling();
        days();
        forgetting();
        bond();
        undoing();
        whatCanBeUndone();
        judging();
        deedNumbers();
        performing();
        years();
        yearsByHand();
        DUE.end();
    }

    private static void telling() {
        BothKnow x = Due.told("house;fact;fact;fact;comes:known;may:not [fact=1 and known>1];");
        DUE.same("tell(0, 0): none was known ahead", x.tell(0, 0), 0);
        DUE.same("age(0, 0)", x.age(0, 0), 1);
        DUE.same("age(1, 0)", x.age(1, 0), 0);
        DUE.same("tell(0, 2)", x.tell(0, 2), 1);
        DUE.same("tell(0, 1): the law may", x.tell(0, 1), -13);
        DUE.same("age(0, 1) stays", x.age(0, 1), 0);
        DUE.same("undoable", x.count(6), 2);
        x.days(1);
        DUE.same("tell(0, 0) again", x.tell(0, 0), 2);
        DUE.same("its age stays", x.age(0, 0), 2);
        DUE.same("age(1, 2)", x.age(1, 2), 2);
        DUE.same("tell(1, 2): an age never lessens", x.tell(1, 2), 2);
        DUE.same("tell(2, 0)", x.tell(2, 0), -11);
        DUE.same("tell(-1, 0)", x.tell(-1, 0), -11);
        DUE.same("tell(0, 3)", x.tell(0, 3), -11);
        DUE.same("tell(0, -1)", x.tell(0, -1), -11);
        DUE.same("no such ahead of may", x.tell(3, 1), -11);
        DUE.same("undoable", x.count(6), 5);
    }

    private static void days() {
        BothKnow x = Due.told("house;fact;fact;doing needs 0 age 2;doing needs 1 age 3;doing but 0;knows 0 0 1;knows 1 1 1;");
        DUE.same("days(0)", x.days(0), -3);
        DUE.same("days(-1)", x.days(-1), -3);
        DUE.same("days(100)", x.days(100), -3);
        DUE.same("days(1): 0 does the first, 1 the third", x.days(1), 2);
        DUE.same("age(0, 0)", x.age(0, 0), 2);
        DUE.same("age(0, 1) isn't known", x.age(0, 1), 0);
        DUE.same("days(99)", x.days(99), 3);
        DUE.same("age(0, 0)", x.age(0, 0), 3);
        DUE.same("age(1, 1)", x.age(1, 1), 3);
        DUE.same("count(5)", x.count(5), 3);
        DUE.same("undo", x.undo(1), 1);
        DUE.same("99 days are undone", x.age(1, 1), 2);
        BothKnow y = Due.told("house;fact;knows 0 0 1;doing needs 0 age 3;");
        DUE.same("two days at once", y.days(2), 1);
    }

    private static void forgetting() {
        BothKnow x = Due.told("house;fact;fact;knows 0 0 3;knows 1 0 2;");
        DUE.same("forget(0, 0)", x.forget(0, 0), 3);
        DUE.same("age(0, 0)", x.age(0, 0), 0);
        DUE.same("age(1, 0)", x.age(1, 0), 2);
        DUE.same("forget(0, 0) again", x.forget(0, 0), -12);
        DUE.same("forget(1, 1)", x.forget(1, 1), -12);
        DUE.same("forget(0, 2)", x.forget(0, 2), -11);
        DUE.same("forget(2, 0)", x.forget(2, 0), -11);
        DUE.same("forget(0, -1)", x.forget(0, -1), -11);
        DUE.same("undoable", x.count(6), 1);
        x.undo(1);
        DUE.same("age(0, 0) is back", x.age(0, 0), 3);
    }

    private static void bond() {
        BothKnow x = Due.told("house;fact;bond 6;comes:bond-7;");
        DUE.same("bond(9)", x.bond(9), 6);
        DUE.same("the law sees it", x.brings(0, 0, 1), 2);
        DUE.same("bond(0)", x.bond(0), 9);
        DUE.same("bond(10)", x.bond(10), -11);
        DUE.same("bond(-1)", x.bond(-1), -11);
        DUE.same("count(4)", x.count(4), 0);
        DUE.same("undo(2)", x.undo(2), 0);
        DUE.same("count(4)", x.count(4), 6);
    }

    private static void undoing() {
        BothKnow x = new BothKnow();
        DUE.same("undo(1) of nothing", x.undo(1), -3);
        for (int k = 0; k < 12; k++) {
            x.bond(k % 10);
        }
        DUE.same("ten at most", x.count(6), 10);
        DUE.same("undo(11)", x.undo(11), -3);
        DUE.same("undo(0)", x.undo(0), -3);
        DUE.same("undo(-1)", x.undo(-1), -3);
        DUE.same("undo(1)", x.undo(1), 9);
        DUE.same("bond", x.count(4), 0);
        DUE.same("undo(10), nine are left", x.undo(10), -3);
        DUE.same("undo(3)", x.undo(3), 6);
        DUE.same("bond", x.count(4), 7);
        DUE.same("undo(6)", x.undo(6), 0);
        DUE.same("the eldest two are forgotten", x.count(4), 1);
        x.bond(5);
        DUE.same("one anew", x.undo(1), 0);
        DUE.same("bond", x.count(4), 1);
        BothKnow y = Due.told("house;fact;fact;fact;fact;comes:0;");
        for (int k = 0; k < 13; k++) {
            y.tell(k < 8 ? k % 2 : 0, k < 8 ? k / 2 : 0);
        }
        DUE.same("known to 0", y.count(2), 4);
        DUE.same("undo(10)", y.undo(10), 0);
        DUE.same("three tellings stay: 0 knows two", y.count(2), 2);
        DUE.same("1 knows one", y.count(3), 1);
        DUE.same("age(0, 1)", y.age(0, 1), 1);
    }

    private static void whatCanBeUndone() {
        BothKnow x = Due.told("house;fact;knows 0 0 3;knows 1 0 3;bond 4;");
        x.days(1);
        DUE.same("days that change no age", x.count(6), 1);
        x.tell(0, 0);
        DUE.same("a telling that changes no age", x.count(6), 2);
        x.bond(4);
        DUE.same("the bond it was", x.count(6), 3);
        Due.tray(x, 0);
        x.perform(0);
        DUE.same("no deed", x.count(6), 3);
        Due.tray(x, 0, 77, 0);
        x.perform(0);
        DUE.same("the first can't be", x.count(6), 3);
        Due.tray(x, 0, -1, 77);
        x.perform(0);
        DUE.same("the first was done", x.count(6), 4);
        x.bond(11);
        x.tell(0, 1);
        x.forget(1, 1);
        x.days(0);
        x.judge(0, 0);
        x.soonest(0, 0);
        x.image(0);
        DUE.same("refusals and questions", x.count(6), 4);
    }

    private static void judging() {
        BothKnow x = Due.told("house;fact;fact;doing needs 0 age 1;doing needs 1 age 2;doing but 1;may:not [fact=1 and theirs>1];");
        DUE.same("judge(4, 0)", x.judge(4, 0), -2);
        DUE.same("judge(-1, 0)", x.judge(-1, 0), -2);
        DUE.same("judge(0, 4): what ahead of the tray", x.judge(0, 4), -2);
        DUE.same("judge(0, -1)", x.judge(0, -1), -2);
        DUE.same("judge(0, 0)", x.judge(0, 0), -6);
        Due.tray(x, 0, 0, 100, 1, 11, 205);
        DUE.same("all can be", x.judge(0, 0), -1);
        DUE.same("why", x.judge(0, 1), 0);
        DUE.same("twin 0 then", x.judge(0, 2), 2);
        DUE.same("twin 1 then", x.judge(0, 3), 3);
        DUE.same("nothing is done", x.count(2) + x.count(3) + x.count(6), 0);
        Due.tray(x, 1, 0, 10, 101, 0);
        DUE.same("the third isn't known", x.judge(1, 0), 2);
        DUE.same("why", x.judge(1, 1), 2);
        DUE.same("what was done ahead", x.judge(1, 2), 5);
        DUE.same("twin 1", x.judge(1, 3), 5);
        Due.tray(x, 2, 11, 0, 1);
        DUE.same("the law may", x.judge(2, 0), 2);
        DUE.same("why", x.judge(2, 1), 3);
        Due.tray(x, 2);
        DUE.same("no deeds", x.judge(2, 0), -1);
        DUE.same("no deeds, why", x.judge(2, 1), 0);
        DUE.same("no deeds, what", x.judge(2, 2), 4);
    }

    private static void deed(long v, int why) {
        BothKnow x = Due.told("house;fact;fact;knows 0 0 1;knows 1 1 1;");
        Due.tray(x, 3, v);
        DUE.same("why of " + v, x.judge(3, 1), why);
        DUE.same("done of " + v, x.perform(3), why == 0 ? 1 : 0);
    }

    private static void deedNumbers() {
        int[] can = {-1, 0, 1, 10, 11, 100, 111, 200, 209};
        for (int v : can) {
            deed(v, 0);
        }
        int[] none = {-2, 2, 9, 12, 19, 20, 99, 102, 109, 112, 120, 199, 210, 255};
        for (int v : none) {
            deed(v, 1);
        }
        deed(101, 2);
        deed(110, 2);
        deed(1L << 32, 1);
        deed((1L << 32) - 1, 1);
        deed(Long.MIN_VALUE, 1);
        BothKnow x = Due.told("house;fact;bond 7;");
        x.numbers(0, 0, 1);
        DUE.same("200 is cut to 8 bits", x.write(0, 0, 200), -56);
        DUE.same("so it is none", x.judge(0, 1), 1);
        DUE.same("255 is cut to a day", x.write(0, 0, 255), -1);
        DUE.same("a day", x.judge(0, 1), 0);
    }

    private static void performing() {
        BothKnow x = Due.told("house;fact;fact;comes:bond;");
        DUE.same("perform(4)", x.perform(4), -2);
        DUE.same("perform(0)", x.perform(0), -6);
        Due.tray(x, 0, 0, 203, 11, -1, 100, 100, 1);
        DUE.same("till one can't be", x.perform(0), 5);
        DUE.same("age(0, 0): forgotten", x.age(0, 0), 0);
        DUE.same("age(0, 1): bond 3", x.age(0, 1), 3);
        DUE.same("age(1, 1)", x.age(1, 1), 2);
        DUE.same("bond", x.count(4), 3);
        DUE.same("one call", x.undo(1), 0);
        DUE.same("as a whole", x.count(2) + x.count(3) + x.count(4), 0);
    }

    private static void years() {
        BothKnow x = Due.told("house;fact;fact;fact;fact;");
        DUE.same("year(1, 0)", x.year(1, 0), -3);
        DUE.same("year(1, 41)", x.year(1, 41), -3);
        DUE.same("year(1, -1)", x.year(1, -1), -3);
        DUE.same("nothing is done", x.count(6), 0);
        BothKnow y = Due.told("house;fact;may:1=2;");
        for (int seed = -20; seed < 20; seed++) {
            int before = y.count(6);
            int done = y.year(seed, 1);
            DUE.same("done by " + seed, y.count(6), Math.min(10, before + done));
        }
    }

    /** The draws told by hand: what a year does is what its deeds in a tray do. */
    private static void yearsByHand() {
        for (int seed = -3; seed < 60; seed++) {
            BothKnow x = Due.told("house;fact;fact;fact;doing needs 0 age 1;comes:bond-1;bond 1;");
            BothKnow y = Due.told("house;fact;fact;fact;doing needs 0 age 1;comes:bond-1;bond 1;");
            int state = seed * 7919;
            int done = 0;
            for (int k = 0; k < 9; k++) {
                state = state * 1103515245 + 12345;
                int sort = (state >>> 16) % 6;
                long deed = -1;
                if (sort == 5) {
                    state = state * 1103515245 + 12345;
                    deed = 200 + (state >>> 16) % 10;
                } else if (sort != 4) {
                    state = state * 1103515245 + 12345;
                    int twin = (state >>> 16) % 2;
                    state = state * 1103515245 + 12345;
                    deed = 10 * twin + (state >>> 16) % 4 + (sort == 3 ? 100 : 0);
                }
                Due.tray(y, 0, deed);
                done += y.perform(0);
            }
            DUE.same("year of " + seed, x.year(seed * 7919, 9), done);
            for (int twin = 0; twin < 2; twin++) {
                for (int fact = 0; fact < 3; fact++) {
                    DUE.same("age behind the year of " + seed, x.age(twin, fact), y.age(twin, fact));
                }
            }
            DUE.same("bond behind the year of " + seed, x.count(4), y.count(4));
            DUE.same("a year is one call", x.count(6), done > 0 ? 1 : 0);
        }
    }
}
