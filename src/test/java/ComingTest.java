/** Promises 17 to 28: coming to goals, alone, rows, what is needed, what can be, secrets, what is overheard. */
public final class ComingTest {
    private static final Due DUE = new Due();

    public static void main(String[] args) {
        comingByTellings();
        comingByDays();
        firstOfLikeRows();
        refusals();
        whatStandsChanges();
        alone();
        rows();
        needed();
        tellings();
        reach();
        secrets();
        overhearing();
        withoutFacts();
        DUE.end();
    }

    private static void way(BothKnow x, int first, int second, int... deeds) {
        DUE.same("soonest(" + first + ", " + second + ")", x.soonest(first, second), deeds.length);
        for (int k = 0; k < deeds.length; k++) {
            DUE.same("way(" + first + ", " + second + ", " + k + ")", x.way(first, second, k), deeds[k]);
        }
        DUE.same("not so many", x.way(first, second, deeds.length), -1);
        DUE.same("far from so many", x.way(first, second, Integer.MAX_VALUE), -1);
    }

    private static void comingByTellings() {
        BothKnow x = Due.told("house;fact;fact;doing needs 0 age 1;doing needs 1 age 1;comes:0;");
        way(x, 0, 0);
        way(x, 1, 0, 0);
        way(x, 0, 1, 10);
        way(x, 3, 0, 0, 1);
        way(x, 3, 3, 0, 1, 10, 11);
        way(x, 2, 1, 1, 10);
    }

    private static void comingByDays() {
        BothKnow x = Due.told("house;fact;fact;doing needs 0 age 3;doing needs 0 age 2 but 1;comes:0;knows 1 1 1;");
        way(x, 1, 0, 0, 99, 99);
        way(x, 3, 0, 0, 99, 99);
        way(x, 2, 0, 0, 99);
        DUE.same("what is known can't be unknown", x.soonest(0, 2), -1);
        DUE.same("no way", x.way(0, 2, 0), -1);
        way(x, 0, 1, 10, 99, 99);
        way(x, 1, 1, 0, 10, 99, 99);
    }

    private static void firstOfLikeRows() {
        // Both ways the other one comes to know it: twin 0 is told first.
        BothKnow x = Due.told("house;fact;fact;doing needs 0 age 1;doing needs 1 age 1 needs 0 age 1;doing needs 0 age 2;");
        way(x, 1, 1, 0);
        way(x, 2, 2, 0, 1);
        way(x, 4, 0, 10);
        way(x, 4, 4, 0, 10);
        BothKnow y = Due.told("house;fact;fact;doing needs 0 age 2 needs 1 age 1;comes:1;");
        way(y, 1, 0, 0, 1, 99);
        y.tell(0, 0);
        way(y, 1, 0, 1, 99);
        way(y, 0, 1, 1, 99);
    }

    private static void refusals() {
        BothKnow x = Due.told("house;fact;doing needs 0 age 1;doing;");
        for (int bad : new int[] {4, -1, 8, Integer.MIN_VALUE, Integer.MAX_VALUE}) {
            DUE.same("soonest first", x.soonest(bad, 0), -3);
            DUE.same("soonest second", x.soonest(0, bad), -3);
            DUE.same("way first", x.way(bad, 0, 0), -3);
            DUE.same("way second", x.way(0, bad, 0), -3);
            DUE.same("rows first", x.rows(bad, 0, 0), -3);
            DUE.same("rows second", x.rows(0, bad, 0), -3);
            DUE.same("needed first", x.needed(bad, 0), -3);
            DUE.same("needed second", x.needed(0, bad), -3);
            DUE.same("tellings first", x.tellings(bad, 0), -3);
            DUE.same("tellings second", x.tellings(0, bad), -3);
            DUE.same("alone doing", x.alone(0, bad), -2);
            DUE.same("aloneWay doing", x.aloneWay(0, bad, -1), -2);
            DUE.same("alone twin", x.alone(bad, 0), -2);
            DUE.same("aloneWay twin", x.aloneWay(bad, 0, 0), -2);
            DUE.same("can", x.can(bad), -2);
            DUE.same("overhears", x.overhears(bad), -2);
            DUE.same("secret", x.secret(bad), -2);
        }
        DUE.same("way(0, 0, -1)", x.way(0, 0, -1), -3);
        DUE.same("aloneWay(0, 0, -1)", x.aloneWay(0, 0, -1), -3);
        DUE.same("rows(0, 0, -1)", x.rows(0, 0, -1), -3);
        DUE.same("rows(0, 0, 13)", x.rows(0, 0, 13), -3);
        DUE.same("all doings", x.soonest(3, 3), 1);
        DUE.same("secret(1)", x.secret(1), -2);
    }

    /** A search that goes on from an earlier call must see what has changed since. */
    private static void whatStandsChanges() {
        BothKnow x = Due.told("house;fact;doing needs 0 age 3;comes:bond;");
        DUE.same("bond 0", x.soonest(1, 1), 4);
        DUE.same("stands", x.stands(), 16);
        x.bond(3);
        DUE.same("bond 3", x.soonest(1, 1), 2);
        DUE.same("stands with bond 3: 0 0, 1 3, 2 3, 3 3, 3 1, 3 2", x.stands(), 6);
        x.tell(0, 0);
        DUE.same("behind a telling", x.soonest(1, 1), 1);
        x.undo(1);
        DUE.same("undone", x.soonest(1, 1), 2);
        x.image(0);
        Due.read(x, "house;fact;doing needs 0 age 3;bond 3;");
        DUE.same("another house", x.soonest(1, 1), 3);
        x.restore(0);
        DUE.same("restored", x.soonest(1, 1), 2);
        Due.read(x, "house;fact;doing needs 0 age 3;bond 3;?");
        DUE.same("behind a fault", x.soonest(1, 1), 2);
    }

    private static void aloneWay(BothKnow x, int twin, int d, int... deeds) {
        DUE.same("alone(" + twin + ", " + d + ")", x.alone(twin, d), deeds.length);
        for (int k = 0; k < deeds.length; k++) {
            DUE.same("aloneWay(" + twin + ", " + d + ", " + k + ")", x.aloneWay(twin, d, k), deeds[k]);
        }
        DUE.same("not so many", x.aloneWay(twin, d, deeds.length), -1);
    }

    private static void alone() {
        BothKnow x = Due.told("house;fact;fact;doing needs 0 age 1;doing needs 0 age 2;doing but 1;doing;doing needs 0 age 3 but 1;");
        DUE.same("both know it", x.alone(0, 0), -1);
        DUE.same("no way", x.aloneWay(0, 0, 0), -1);
        aloneWay(x, 0, 1, 10);
        aloneWay(x, 1, 1, 0);
        DUE.same("both come not to do it", x.alone(0, 2), -1);
        DUE.same("both always do it", x.alone(1, 3), -1);
        aloneWay(x, 1, 4, 0, 99);
        BothKnow y = Due.told("house;fact;doing needs 0 age 1;doing needs 0 age 3;doing but 0;comes:twin*3;knows 1 0 1;");
        aloneWay(y, 1, 0);
        aloneWay(y, 0, 2);
        aloneWay(y, 0, 1, 10);
        aloneWay(y, 1, 1, 99, 99);
        DUE.same("1 knows it for good", y.alone(1, 2), -1);
    }

    private static void rows() {
        BothKnow x = Due.told("house;fact;fact;doing needs 0 age 2;may:twin=0 or known=0;");
        DUE.same("rows(0, 0, 0)", x.rows(0, 0, 0), 1);
        DUE.same("rows(1, 0, 0)", x.rows(1, 0, 0), 0);
        DUE.same("rows of 1", x.rows(0, 0, 1), 5);
        DUE.same("to the goal by 1: 10", x.rows(1, 0, 1), 1);
        // 0 then day; 10 then any of 0, 1, day; 1 or 11 then nothing brings 1's telling, day then 10.
        DUE.same("to the goal by 2", x.rows(1, 0, 2), 5);
        BothKnow y = Due.told("house;fact;fact;fact;fact;doing;");
        long all = 1;
        for (int n = 0; n <= 12; n++) {
            DUE.same("all rows of " + n, y.rows(1, 1, n), all);
            all *= 9;
        }
        BothKnow z = Due.told("house;doing;");
        DUE.same("days alone", z.rows(1, 0, 12), 1);
    }

    private static void needed() {
        BothKnow x = Due.told("house;fact;fact;fact;doing needs 0 age 1;doing needs 1 age 1 but 2;doing needs 0 age 1 but 0 needs 2 age 2;"
            + "doing needs 0 age 1 needs 1 age 1;knows 0 1 1;may:not fact=2;");
        DUE.same("needed(0, 0)", x.needed(0, 0), 0);
        DUE.same("needed(1, 0)", x.needed(1, 0), 1);
        DUE.same("0 knows 1", x.needed(2, 0), 0);
        DUE.same("1 doesn't", x.needed(0, 2), 2);
        DUE.same("none anyhow", x.needed(4, 0), 0);
        DUE.same("of both", x.needed(8, 8), 3);
        // The law may lets 1 be told only who knows something: 0 must be told ahead.
        BothKnow y = Due.told("house;fact;fact;doing needs 1 age 1;comes:0;may:fact=0 or known>0;");
        DUE.same("a fact on the way", y.needed(1, 0), 3);
        y.tell(0, 0);
        DUE.same("is known now", y.needed(1, 0), 2);
    }

    private static void tellings() {
        BothKnow x = Due.told("house;fact;fact;doing needs 0 age 3;doing needs 0 age 1 but 1;doing needs 0 age 3 needs 1 age 1;comes:1;may:known<2;");
        DUE.same("tellings(0, 0)", x.tellings(0, 0), 0);
        DUE.same("days go by", x.tellings(1, 1), 1);
        DUE.same("soonest takes as many", x.soonest(1, 1), 3);
        DUE.same("two facts", x.tellings(4, 4), 2);
        DUE.same("both ways round", x.tellings(2, 4), -1);
        x.tell(1, 0);
        DUE.same("days alone", x.tellings(1, 0), 0);
        DUE.same("another one", x.tellings(4, 0), 1);
        x.tell(0, 1);
        DUE.same("known for good", x.tellings(2, 0), -1);
        BothKnow y = Due.told("house;fact;doing needs 0 age 3;comes:3;");
        DUE.same("fewer tellings, more days", y.tellings(1, 1), 1);
        DUE.same("fewer of both", y.soonest(1, 1), 2);
    }

    private static void reach() {
        BothKnow x = Due.told("house;fact;fact;doing needs 0 age 1;doing needs 1 age 3 but 0;doing needs 1 age 1 needs 0 age 1;doing but 1;"
            + "may:twin=0 and fact=0;comes:0;");
        DUE.same("can(0)", x.can(0), 9);
        DUE.same("can(1)", x.can(1), 8);
        DUE.same("stands", x.stands(), 4);
        DUE.same("most", x.most(), 3);
        Due.read(x, "house;fact;fact;doing needs 0 age 1;doing needs 1 age 1;doing but 0;doing but 1;comes:0;");
        DUE.same("most at one time", x.most(), 4);
        DUE.same("can each", x.can(1), 15);
        DUE.same("all ages but those of days", x.stands(), 256);
        Due.read(x, "house;fact;");
        DUE.same("with no law", x.stands(), 1 + 2 + 4);
        x.tell(0, 0);
        DUE.same("behind a telling: 1 2, 2 3, 3 3, 2 2, 3 3", x.stands(), 4);
        x.days(3);
        DUE.same("all is old", x.stands(), 1);
    }

    private static void secrets() {
        BothKnow x = Due.told("house;fact;fact;fact;comes:if fact=0 then 0 else twin end;may:not [twin=1 and fact=2];knows 0 1 1;");
        DUE.same("secret(0)", x.secret(0), 3);
        DUE.same("secret(1): 1 knows it not, 0 knows it", x.secret(1), 1);
        DUE.same("secret(2)", x.secret(2), 1);
        x.tell(0, 0);
        DUE.same("secret(0): told to 0", x.secret(0), 1);
        x.tell(1, 0);
        DUE.same("secret(0): known to both", x.secret(0), 0);
        BothKnow y = Due.told("house;fact;");
        DUE.same("both know it", y.secret(0), 0);
    }

    private static void overhearing() {
        BothKnow x = Due.told("house;fact;fact;fact;comes:if fact=1 then known-1 else if fact=2 then 1-theirs else 0 end end;knows 1 2 1;");
        DUE.same("overhears(0): 1 knows 2", x.overhears(0), 6);
        DUE.same("overhears(1): 2 it knows", x.overhears(1), 2);
        BothKnow y = Due.told("house;fact;fact;comes:1;may:twin=1;");
        DUE.same("1 is told", y.overhears(0), 3);
        DUE.same("0 can't be told", y.overhears(1), 0);
        y.tell(1, 0);
        DUE.same("it knows one", y.overhears(0), 2);
    }

    private static void withoutFacts() {
        BothKnow x = Due.told("house;doing;doing;bond 3;");
        way(x, 3, 3);
        DUE.same("alone", x.alone(0, 1), -1);
        DUE.same("needed", x.needed(3, 3), 0);
        DUE.same("tellings", x.tellings(3, 3), 0);
        DUE.same("can", x.can(0), 3);
        DUE.same("stands", x.stands(), 1);
        DUE.same("most", x.most(), 4);
        DUE.same("overhears", x.overhears(0), 0);
        DUE.same("secret", x.secret(0), -2);
    }
}
