/** Promises 29 to 37: who was told, bonds and what to tell next, forcing, chances. */
public final class GuessingTest {
    private static final Due DUE = new Due();

    public static void main(String[] args) {
        whoWasTold();
        whoWasToldRefusals();
        bonds();
        attempts();
        bondsRefusals();
        forcing();
        enemy();
        forcingRefusals();
        chances();
        likeliest();
        chancesRefusals();
        DUE.end();
    }

    private static void whoWasTold() {
        BothKnow x = Due.told("house;fact;fact;doing needs 0 age 1;doing needs 1 age 1;doing needs 0 age 3;comes:0;may:known<2;");
        Due.tray(x, 0, 0, 1, 0);
        DUE.same("0 knows both, 1 none", x.told(0, 7, 0), 0);
        DUE.same("0 knows both, 1 the first since the third", x.told(0, 7, 1), 1);
        DUE.same("whom 0", x.whom(0, 7, 1, 0), 0);
        DUE.same("whom 1", x.whom(0, 7, 1, 1), 0);
        DUE.same("whom 2", x.whom(0, 7, 1, 2), 1);
        DUE.same("whom 3", x.whom(0, 7, 1, 3), -1);
        DUE.same("surely 0", x.surely(0, 7, 1, 0), 3);
        DUE.same("surely 1", x.surely(0, 7, 1, 1), 4);
        DUE.same("0, 1, 0", x.told(0, 5, 2), 1);
        DUE.same("its second", x.whom(0, 5, 2, 1), 1);
        DUE.same("no rows", x.whom(0, 1, 1, 0), -1);
        DUE.same("no rows, surely", x.surely(0, 1, 1, 0), 0);
        x = Due.told("house;fact;doing needs 0 age 1;comes:0;");
        Due.tray(x, 0, 0, 0);
        DUE.same("0 and 1 or 1 and 0", x.told(0, 1, 1), 2);
        DUE.same("the first of them", x.whom(0, 1, 1, 0), 0);
        DUE.same("its second", x.whom(0, 1, 1, 1), 1);
        DUE.same("neither surely", x.surely(0, 1, 1, 0) + x.surely(0, 1, 1, 1), 0);
        DUE.same("told twice", x.told(0, 1, 0), 1);
        DUE.same("surely both times", x.surely(0, 0, 1, 1), 3);
        BothKnow y = Due.told("house;fact;doing needs 0 age 3;comes:0;");
        Due.tray(y, 1, 0, 0, 0, 0, 0, 0, 0, 0, 0, 0);
        // Old at the end for one: told among the first nine; not for the other: at the last alone or never.
        DUE.same("ten numbers", y.told(1, 1, 1), 1022 - 2);
        DUE.same("the first row", y.whom(1, 1, 1, 7), 0);
        DUE.same("its ninth", y.whom(1, 1, 1, 8), 1);
        DUE.same("0 alone", y.told(1, 1, 0), 2);
        DUE.same("surely the first nine", y.surely(1, 1, 0, 0), 511);
        DUE.same("nothing is done", y.count(2) + y.count(6), 0);
    }

    private static void whoWasToldRefusals() {
        BothKnow x = Due.told("house;fact;fact;doing;");
        DUE.same("told(4)", x.told(4, 9, 9), -2);
        DUE.same("told(-1)", x.told(-1, 0, 0), -2);
        DUE.same("told missing", x.told(0, 9, 9), -6);
        DUE.same("surely what ahead of missing", x.surely(0, 0, 0, 2), -2);
        DUE.same("surely missing", x.surely(0, 0, 0, 1), -6);
        DUE.same("whom missing", x.whom(0, 0, 0, -1), -6);
        Due.tray(x, 0);
        DUE.same("told of none", x.told(0, 9, 0), -4);
        Due.tray(x, 0, new long[11]);
        DUE.same("told of eleven", x.told(0, 9, 0), -4);
        DUE.same("whom of eleven", x.whom(0, 0, 0, -1), -4);
        DUE.same("surely of eleven", x.surely(0, 0, 0, 0), -4);
        Due.tray(x, 0, 1, 2);
        DUE.same("told no fact", x.told(0, 1, 1), -3);
        Due.tray(x, 0, 1, -1);
        DUE.same("told NONE", x.told(0, 1, 1), -3);
        Due.tray(x, 0, 1L << 32);
        DUE.same("told a long one", x.told(0, 1, 1), -3);
        Due.tray(x, 0, 1, 0);
        DUE.same("told first set", x.told(0, 2, 1), -3);
        DUE.same("told second set", x.told(0, 1, -1), -3);
        DUE.same("whom(-1)", x.whom(0, 1, 1, -1), -3);
        DUE.same("surely set", x.surely(0, 2, 1, 0), -3);
        DUE.same("surely what", x.surely(0, 2, 1, -1), -2);
        DUE.same("told", x.told(0, 1, 1), 4);
    }

    private static void bonds() {
        BothKnow x = Due.told("house;fact;fact;doing needs 0 age 1;doing needs 0 age 2;doing needs 0 age 3;bond 5;"
            + "comes:bond-4;may:theirs<2 and not [twin=1 and known>0];");
        Due.tray(x, 0, 0);
        DUE.same("nothing comes", x.bonds(0, 1, 0), 0x1F);
        DUE.same("1 comes", x.bonds(0, 1, 1), 1 << 5);
        DUE.same("2 comes", x.bonds(0, 1, 3), 1 << 6);
        DUE.same("3 comes", x.bonds(0, 1, 7), 1 << 7 | 1 << 8 | 1 << 9);
        DUE.same("none", x.bonds(0, 3, 7), 0);
        Due.tray(x, 0, 0, -1, -1);
        DUE.same("and two days", x.bonds(0, 7, 7), 0x3E0);
        Due.tray(x, 0, 0, 11);
        DUE.same("all can be done: 1 must not know", x.bonds(0, 1, 0), 0x1F);
        DUE.same("the bond is as it was", x.count(4), 5);
        DUE.same("nothing is done", x.count(2) + x.count(6), 0);
        Due.tray(x, 0, -1, -1, -1, -1, -1, -1, -1, -1, -1, -1, -1, -1);
        DUE.same("twelve days", x.bonds(0, 0, 0), 1023);
        DUE.same("twelve days, another set", x.bonds(0, 0, 1), 0);
        x.tell(0, 0);
        DUE.same("from now on", x.bonds(0, 7, 7), 1023);
    }

    private static void attempts() {
        BothKnow x = Due.told("house;fact;fact kind 1;fact kind 2;doing;"
            + "comes:if kind=0 then 1 else if kind=1 then bond-6 else bond-5+twin end end;");
        Due.tray(x, 0, -1);
        // Fact 1: 0 to 6 like 0; fact 2 to 0: 0 to 5 like 0; to 1: 0 to 4 like 0, 7 to 9 like 3.
        DUE.same("least of the greatest", x.attempt(0, 1, 1), 12);
        x.tell(0, 2);
        // Bond 0: 1 doesn't know it yet; twin 1 told: 0 knows it at 1, so 0 to 5 like 1.
        DUE.same("as things are now", x.attempt(0, 1, 1), 2);
        BothKnow y = Due.told("house;fact;fact;doing needs 0 age 1;comes:bond;may:twin=1;");
        Due.tray(y, 0, 10);
        DUE.same("of those that can be told", y.attempt(0, 1, 1), 10);
        DUE.same("no bonds", y.attempt(0, 0, 0), -1);
        DUE.same("bond 0 alone", y.attempt(0, 0, 1), 10);
        BothKnow z = Due.told("house;fact;doing;may:1=2;");
        Due.tray(z, 0, -1);
        DUE.same("none can be told", z.attempt(0, 1, 1), -1);
        DUE.same("though there are bonds", z.bonds(0, 1, 1), 1023);
        BothKnow w = Due.told("house;doing;");
        Due.tray(w, 0, -1);
        DUE.same("no facts", w.attempt(0, 1, 1), -1);
        DUE.same("no facts, bonds", w.bonds(0, 1, 1), 1023);
    }

    private static void bondsRefusals() {
        BothKnow x = Due.told("house;fact;fact;doing;");
        DUE.same("bonds(4)", x.bonds(4, 9, 9), -2);
        DUE.same("attempt(-1)", x.attempt(-1, 9, 9), -2);
        DUE.same("bonds missing", x.bonds(3, 9, 9), -6);
        DUE.same("attempt missing", x.attempt(3, 9, 9), -6);
        Due.tray(x, 3);
        DUE.same("bonds of none", x.bonds(3, 9, 9), -4);
        DUE.same("attempt of none", x.attempt(3, 9, 9), -4);
        Due.tray(x, 3, new long[13]);
        DUE.same("bonds of thirteen", x.bonds(3, 9, 9), -4);
        for (long bad : new long[] {-2, 2, 9, 12, 20, 100, 110, 200, 1L << 32, -1L << 32}) {
            Due.tray(x, 3, 0, bad);
            DUE.same("bonds of " + bad, x.bonds(3, 1, 1), -3);
            DUE.same("attempt of " + bad, x.attempt(3, 1, 1), -3);
        }
        Due.tray(x, 3, 0, 1, 10, 11, -1);
        DUE.same("first set", x.bonds(3, 2, 1), -3);
        DUE.same("second set", x.attempt(3, 1, 2), -3);
        DUE.same("bonds", x.bonds(3, 1, 1), 1023);
    }

    private static void forcing() {
        BothKnow x = Due.told("house;fact;doing needs 0 age 1;doing needs 0 age 3;doing but 0;comes:0;may:known=0;");
        DUE.same("one telling", x.forces(0, 0), 1);
        DUE.same("it", x.best(0, 0), 0);
        DUE.same("of the other one", x.best(1, 0), 10);
        // Told, then the enemy tells the other one, a day, the enemy must let a day go by.
        DUE.same("old enough", x.forces(0, 1), 4);
        DUE.same("by", x.best(0, 1), 0);
        DUE.same("done now", x.forces(0, 2), 0);
        DUE.same("nothing to do", x.best(0, 2), -1);
        x.tell(0, 0);
        // The friend's day, then whatever the enemy does but a day, then a day.
        DUE.same("a day first", x.forces(0, 1), 3);
        DUE.same("told: no use; so 10 or a day", x.best(0, 1), 10);
        x.tell(1, 0);
        DUE.same("days alone", x.forces(0, 1), 2);
        DUE.same("a day", x.best(0, 1), 99);
        DUE.same("it can't be unknown", x.forces(0, 2), -1);
        DUE.same("no move", x.best(0, 2), -1);
    }

    private static void enemy() {
        // The enemy tells fact 1, and 0 never does it, unless it does it some time by then.
        BothKnow x = Due.told("house;fact;fact;doing needs 0 age 2 but 1;doing needs 0 age 1 but 1;comes:0;");
        DUE.same("the enemy spoils it", x.forces(0, 0), -1);
        DUE.same("no move", x.best(0, 0), -1);
        DUE.same("ahead of the enemy", x.forces(0, 1), 1);
        x.tell(0, 0);
        DUE.same("at once", x.forces(0, 0), 1);
        DUE.same("a day", x.best(0, 0), 99);
        // Without tellings days go by, six turns: what needs them is forced.
        BothKnow y = Due.told("house;fact;doing needs 0 age 3;knows 0 0 1;may:1=2;");
        DUE.same("the enemy lets a day go by too", y.forces(0, 0), 2);
        DUE.same("not the other one", y.forces(1, 0), -1);
        // The enemy can tell again and again what is told, so that no day goes by but the friend's.
        BothKnow z = Due.told("house;fact;doing needs 0 age 3;comes:0;");
        DUE.same("told, day, day by the friend: five turns", z.forces(0, 0), 5);
        BothKnow w = Due.told("house;fact;fact;doing needs 0 age 3 needs 1 age 2;comes:0;");
        DUE.same("two tellings, two days by the friend: seven turns", w.forces(1, 0), -1);
    }

    private static void forcingRefusals() {
        BothKnow x = Due.told("house;fact;doing;");
        DUE.same("forces(2, 0)", x.forces(2, 0), -2);
        DUE.same("forces(0, 1)", x.forces(0, 1), -2);
        DUE.same("forces(0, -1)", x.forces(0, -1), -2);
        DUE.same("best(-1, 0)", x.best(-1, 0), -2);
        DUE.same("best(0, 1)", x.best(0, 1), -2);
    }

    private static void chance(BothKnow x, int twin, int d, int n, int above, int below) {
        DUE.same("chance(" + twin + ", " + d + ", " + n + ", 0)", x.chance(twin, d, n, 0), above);
        DUE.same("chance(" + twin + ", " + d + ", " + n + ", 1)", x.chance(twin, d, n, 1), below);
    }

    private static void chances() {
        BothKnow x = Due.told("house;fact;fact;doing needs 0 age 1;doing needs 0 age 3;doing but 0;doing;doing needs 0 age 1 needs 1 age 1;comes:0;");
        chance(x, 0, 0, 0, 0, 1);
        chance(x, 0, 2, 0, 1, 1);
        chance(x, 0, 0, 1, 1, 4);
        chance(x, 0, 0, 2, 7, 16);
        chance(x, 0, 1, 2, 1, 4);
        chance(x, 1, 1, 3, 7, 16);
        chance(x, 1, 2, 2, 9, 16);
        chance(x, 0, 3, 4, 1, 1);
        chance(x, 0, 4, 2, 1, 8);
        chance(x, 0, 0, 4, 175, 256);
        BothKnow y = Due.told("house;fact;fact;fact;fact;doing needs 0 age 1;comes:0;");
        chance(y, 0, 0, 4, 4096 - 2401, 4096);
        // The law may: a draw that can't be told still counts, and a day is behind it.
        BothKnow z = Due.told("house;fact;doing needs 0 age 3;knows 0 0 1;may:twin=1;comes:0;");
        chance(z, 0, 0, 1, 0, 1);
        chance(z, 0, 0, 2, 1, 1);
        chance(z, 1, 0, 2, 1, 2);
        BothKnow w = Due.told("house;doing;");
        chance(w, 0, 0, 3, 1, 1);
        DUE.same("nothing is done", w.count(6) + x.count(2) + x.count(6), 0);
    }

    private static void likeliest() {
        BothKnow x = Due.told("house;fact;fact;doing needs 0 age 3;doing needs 0 age 1;doing needs 1 age 1;doing but 0;comes:0;may:fact=1 or known>0;");
        DUE.same("now", x.likeliest(0, 0), 3);
        DUE.same("1", x.likeliest(0, 1), 3);
        DUE.same("4: 1 is told", x.likeliest(1, 4), 3);
        x.tell(1, 0);
        x.tell(1, 1);
        x.tell(1, 0);
        x.days(2);
        DUE.same("the first of like ones", x.likeliest(1, 2), 0);
        BothKnow y = Due.told("house;fact;doing needs 0 age 3;doing needs 0 age 2;");
        DUE.same("none is likely: the first", y.likeliest(0, 0), 0);
        DUE.same("the second is likelier", y.likeliest(0, 1), 1);
        // Told itself 1 and a day; the other one 2 and a day: 2 or 3.
        DUE.same("half a chance, and all", y.chance(0, 0, 1, 1) * 10 + y.chance(0, 1, 1, 1), 21);
        BothKnow z = new BothKnow();
        DUE.same("no doings", z.likeliest(0, 4), -1);
        DUE.same("no doings, no twin", z.likeliest(2, 4), -2);
        DUE.same("no doings, n", z.likeliest(0, 5), -3);
    }

    private static void chancesRefusals() {
        BothKnow x = Due.told("house;fact;doing;");
        DUE.same("chance twin", x.chance(2, 0, 9, 0), -2);
        DUE.same("chance doing", x.chance(0, 1, 9, 0), -2);
        DUE.same("chance what", x.chance(0, 0, 9, 2), -2);
        DUE.same("chance what -1", x.chance(0, 0, 0, -1), -2);
        DUE.same("chance n", x.chance(0, 0, 5, 0), -3);
        DUE.same("chance n -1", x.chance(0, 0, -1, 1), -3);
        DUE.same("likeliest twin", x.likeliest(-1, 9), -2);
        DUE.same("likeliest n", x.likeliest(0, 5), -3);
        DUE.same("likeliest n -1", x.likeliest(0, -1), -3);
    }
}
