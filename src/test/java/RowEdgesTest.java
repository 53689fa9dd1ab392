/** Promises 17 to 28 and the terms' rows and goals, an edge at a time. */
public final class RowEdgesTest {
    private static final Due DUE = new Due();
    private static final int[] WILD = {Integer.MIN_VALUE, Integer.MIN_VALUE + 1, -1000000, -2, -1,
        1000000, 1 << 16, 1 << 30, Integer.MAX_VALUE};

    public static void main(String[] args) {
        setsOfDoings();
        goalsOfAtLeast();
        goalsThatAreNow();
        goalsThatCantBe();
        placesOfAWay();
        fewestFirst();
        firstOfLikeOnes();
        daysBehindTellings();
        lawsOnTheWay();
        aloneOfTwinsAndDoings();
        alonePlaces();
        aloneOrder();
        lengthsOfRows();
        manyRows();
        rowsOfJustN();
        rowsFromNowOn();
        neededFacts();
        neededOfNone();
        fewestTellings();
        doingsOneCanDo();
        waysAgesCanBe();
        mostAtOneTime();
        secrets();
        overhearing();
        withoutFacts();
        nothingElseIsDone();
        askedOfEachHouseAnew();
        askedOfImages();
        askedByTurns();
        DUE.end();
    }

    private static void way(BothKnow x, int first, int second, int... deeds) {
        String name = "(" + first + ", " + second + ")";
        DUE.same("soonest" + name, x.soonest(first, second), deeds.length);
        for (int k = 0; k < deeds.length; k++) {
            DUE.same("way" + name + " at " + k, x.way(first, second, k), deeds[k]);
        }
        DUE.same("way" + name + " behind it", x.way(first, second, deeds.length), -1);
        x.numbers(3, 0, 40);
        DUE.same("lists" + name, x.lists(3, first, second), deeds.length);
    }

    private static void setsOfDoings() {
        DUE.says("-3: others are in a set");
        for (int doings = 0; doings <= 6; doings++) {
            BothKnow x = Due.told("house;fact;" + "doing;".repeat(doings));
            x.numbers(0, 0, 1);
            int all = (1 << doings) - 1;
            sets(x, all, true);
            sets(x, all + 1, false);
            sets(x, all + 2, false);
            for (int wild : WILD) {
                sets(x, wild, false);
                sets(x, wild & ~all | 1 << 29, false);
            }
        }
    }

    private static void sets(BothKnow x, int set, boolean fine) {
        for (int k = 0; k < 2; k++) {
            int a = k == 0 ? set : 0;
            int b = k == 0 ? 0 : set;
            String name = "(" + a + ", " + b + ")";
            DUE.same("soonest" + name, x.soonest(a, b), fine ? 0 : -3);
            DUE.same("way" + name, x.way(a, b, 0), fine ? -1 : -3);
            DUE.same("rows" + name, x.rows(a, b, 1), fine ? 3 : -3);
            DUE.same("needed" + name, x.needed(a, b), fine ? 0 : -3);
            DUE.same("tellings" + name, x.tellings(a, b), fine ? 0 : -3);
            DUE.same("lists" + name, x.lists(0, a, b), fine ? 0 : -3);
            if (fine) {
                continue;
            }
            DUE.same("told" + name, x.told(0, a, b), -3);
            DUE.same("whom" + name, x.whom(0, a, b, 0), -3);
            DUE.same("surely" + name, x.surely(0, a, b, 0), -3);
            DUE.same("bonds" + name, x.bonds(0, a, b), -3);
            DUE.same("attempt" + name, x.attempt(0, a, b), -3);
        }
    }

    private static void goalsOfAtLeast() {
        DUE.says("A GOAL: each DOES all of its own at least");
        BothKnow x = Due.told("house;fact;fact;doing needs 0 age 1;doing needs 1 age 1;doing;comes:0;");
        way(x, 0, 0);
        way(x, 4, 4);
        way(x, 1, 0, 0);
        way(x, 5, 0, 0);
        way(x, 3, 0, 0, 1);
        way(x, 0, 3, 10, 11);
        way(x, 1, 2, 0, 11);
        way(x, 7, 7, 0, 1, 10, 11);
        x.tell(0, 1);
        way(x, 1, 0, 0);
        way(x, 2, 0);
        DUE.same("rows to a goal with more done", x.rows(2, 0, 1), 5);
    }

    private static void goalsThatAreNow() {
        DUE.says("COMING to a GOAL: how many, the fewest (none: it is now)");
        BothKnow x = Due.told("house;fact;doing but 0;doing needs 0 age 3;knows 1 0 3;");
        way(x, 1, 2);
        DUE.same("needed", x.needed(1, 2), 0);
        DUE.same("tellings", x.tellings(1, 2), 0);
        DUE.same("rows of none", x.rows(1, 2, 0), 1);
        DUE.same("alone(0, 0)", x.alone(0, 0), 0);
        DUE.same("aloneWay(0, 0, 0)", x.aloneWay(0, 0, 0), -1);
        DUE.same("alone(1, 1)", x.alone(1, 1), 0);
    }

    private static void goalsThatCantBe() {
        DUE.says("NONE: it can't be; 0: there is none anyhow; -5: there is none");
        BothKnow x = Due.told("house;fact;fact;doing needs 0 age 1 but 1;doing needs 1 age 1;doing but 0;knows 0 1 1;may:fact=0;comes:0;");
        int[][] goals = {{1, 0}, {0, 2}, {3, 0}, {0, 5}, {1, 7}, {7, 7}};
        x.numbers(0, 0, 3);
        for (int[] goal : goals) {
            DUE.same("soonest", x.soonest(goal[0], goal[1]), -1);
            DUE.same("way", x.way(goal[0], goal[1], 0), -1);
            DUE.same("way far on", x.way(goal[0], goal[1], Integer.MAX_VALUE), -1);
            DUE.same("rows", x.rows(goal[0], goal[1], 12), 0);
            DUE.same("needed", x.needed(goal[0], goal[1]), 0);
            DUE.same("tellings", x.tellings(goal[0], goal[1]), -1);
            DUE.same("lists", x.lists(0, goal[0], goal[1]), -5);
        }
        DUE.same("alone(0, 0)", x.alone(0, 0), -1);
        DUE.same("aloneWay(0, 0, 0)", x.aloneWay(0, 0, 0), -1);
        DUE.same("alone(1, 1)", x.alone(1, 1), -1);
        BothKnow y = Due.told("house;fact;doing but 0;knows 0 0 1;");
        DUE.same("what is known stays known", y.soonest(1, 0), -1);
        DUE.same("way", y.way(1, 0, 0), -1);
        DUE.same("rows", y.rows(1, 0, 3), 0);
        DUE.same("tellings", y.tellings(1, 0), -1);
        DUE.same("can", y.can(0), 0);
        DUE.same("alone(0, 0)", y.alone(0, 0), -1);
        DUE.same("the other one", y.alone(1, 0), 0);
    }

    private static void placesOfAWay() {
        DUE.says("The i-th of it (99: a DAY). NONE: not so many; -3: i is below 0");
        BothKnow x = Due.told("house;fact;fact;fact;fact;doing needs 0 age 3 needs 1 age 3 needs 2 age 3 needs 3 age 3;comes:0;");
        way(x, 1, 1, 0, 1, 2, 3, 10, 11, 12, 13, 99, 99);
        DUE.same("tellings", x.tellings(1, 1), 8);
        DUE.same("needed", x.needed(1, 1), 15);
        for (int wild : WILD) {
            DUE.same("way(1, 1, " + wild + ")", x.way(1, 1, wild), wild < 0 ? -3 : -1);
            DUE.same("aloneWay(0, 0, " + wild + ")", x.aloneWay(0, 0, wild), wild < 0 ? -3 : -1);
        }
        DUE.same("aloneWay of twin 1, its first", x.aloneWay(1, 0, 0), 10);
        DUE.same("its last", x.aloneWay(1, 0, 5), 99);
        DUE.same("behind it", x.aloneWay(1, 0, 6), -1);
        DUE.same("nothing is done", x.count(2) + x.count(3) + x.count(6), 0);
    }

    private static void fewestFirst() {
        DUE.says("COMING to it: the fewest");
        // 0, 99 stands ahead of 10 in order, but it is more.
        way(Due.told("house;fact;doing needs 0 age 2;"), 1, 0, 10);
        way(Due.told("house;fact;doing needs 0 age 3;"), 1, 0, 10, 99);
        way(Due.told("house;fact;doing needs 0 age 3;comes:3;"), 1, 0, 10);
        way(Due.told("house;fact;doing needs 0 age 3;comes:3;"), 1, 1, 0, 10);
        way(Due.told("house;fact;doing needs 0 age 3;comes:1;"), 1, 1, 0, 99, 99);
        BothKnow x = Due.told("house;fact;fact;doing needs 0 age 2 needs 1 age 2;comes:1;knows 0 0 1;");
        way(x, 1, 0, 1, 99);
        DUE.same("the fewest tellings", x.tellings(1, 0), 1);
    }

    private static void firstOfLikeOnes() {
        DUE.says("of like ones the first");
        BothKnow x = Due.told("house;fact;fact;fact;doing needs 2 age 1;doing needs 1 age 1;doing needs 0 age 1;comes:1;");
        way(x, 1, 0, 2);
        way(x, 2, 0, 1);
        way(x, 4, 4, 0);
        way(x, 3, 0, 1, 2);
        way(x, 7, 7, 0, 1, 2);
        // Only 1 can be told at first: its tellings stand behind those of 0, which come then.
        BothKnow y = Due.told("house;fact;fact;doing needs 0 age 1 needs 1 age 1;comes:0;may:twin=1 or theirs>0;");
        way(y, 1, 0, 10, 0, 1);
        way(y, 0, 1, 10, 11);
        way(y, 1, 1, 10, 0, 1, 11);
    }

    private static void daysBehindTellings() {
        DUE.says("a DAY stands behind all TELLINGS in order");
        BothKnow x = Due.told("house;fact;doing needs 0 age 2;knows 0 0 1;");
        way(x, 1, 0, 10);
        BothKnow y = Due.told("house;fact;doing needs 0 age 2;knows 0 0 1;comes:0;");
        way(y, 1, 0, 99);
        BothKnow z = Due.told("house;fact;fact;fact;fact;doing needs 0 age 2 needs 3 age 1;knows 0 0 1;comes:0;");
        way(z, 1, 0, 3, 99);
        BothKnow w = Due.told("house;fact;fact;fact;fact;doing needs 0 age 2 needs 3 age 1;knows 1 0 1;comes:0;");
        way(w, 0, 1, 13, 99);
        w.days(1);
        way(w, 0, 1, 13);
    }

    private static void lawsOnTheWay() {
        DUE.says("A ROW: TELLINGS and DAYS from now on, one behind the other");
        // A telling that can't be now can be behind another one, and the other way round.
        BothKnow x = Due.told("house;fact;fact;doing needs 1 age 1;doing needs 0 age 1 needs 1 age 1;comes:0;may:fact=0 or known=1;");
        way(x, 1, 0, 0, 1);
        BothKnow y = Due.told("house;fact;fact;doing needs 0 age 1 needs 1 age 1;doing needs 0 age 1;comes:0;may:known=0;");
        way(y, 2, 2, 0, 10);
        DUE.same("one is told once", y.soonest(1, 0), -1);
        BothKnow z = Due.told("house;fact;doing needs 0 age 3;bond 2;comes:bond;");
        way(z, 1, 0, 10, 99);
        z.bond(3);
        way(z, 1, 0, 10);
        z.bond(0);
        way(z, 1, 0, 0, 99, 99);
        z.undo(2);
        way(z, 1, 0, 10, 99);
    }

    // ---- alone

    private static void aloneOfTwinsAndDoings() {
        DUE.says("ALONE. -2: the TWIN, the DOING");
        for (int doings = 0; doings <= 6; doings++) {
            BothKnow x = Due.told("house;fact;" + "doing needs 0 age 1;".repeat(doings) + "comes:0;");
            for (int d = -1; d <= 7; d++) {
                for (int twin = -1; twin <= 2; twin++) {
                    boolean is = d >= 0 && d < doings && twin >= 0 && twin < 2;
                    DUE.same("alone(" + twin + ", " + d + ")", x.alone(twin, d), is ? 1 : -2);
                    DUE.same("aloneWay(" + twin + ", " + d + ", 0)", x.aloneWay(twin, d, 0), is ? 10 * twin : -2);
                    DUE.same("aloneWay(" + twin + ", " + d + ", 1)", x.aloneWay(twin, d, 1), is ? -1 : -2);
                    DUE.same("aloneWay(" + twin + ", " + d + ", -1)", x.aloneWay(twin, d, -1), is ? -3 : -2);
                }
            }
            for (int wild : WILD) {
                DUE.same("alone(" + wild + ", 0)", x.alone(wild, 0), -2);
                DUE.same("alone(0, " + wild + ")", x.alone(0, wild), -2);
                DUE.same("aloneWay(" + wild + ", 0, 0)", x.aloneWay(wild, 0, 0), -2);
                DUE.same("aloneWay(0, " + wild + ", 0)", x.aloneWay(0, wild, 0), -2);
            }
        }
    }

    private static void aloneWay(BothKnow x, int twin, int d, int... deeds) {
        DUE.same("alone(" + twin + ", " + d + ")", x.alone(twin, d), deeds.length);
        for (int k = 0; k < deeds.length; k++) {
            DUE.same("aloneWay(" + twin + ", " + d + ", " + k + ")", x.aloneWay(twin, d, k), deeds[k]);
        }
        DUE.same("aloneWay behind it", x.aloneWay(twin, d, deeds.length), -1);
    }

    private static void alonePlaces() {
        DUE.says("ALONE: a TWIN DOES a DOING, the other one doesn't");
        BothKnow x = Due.told("house;fact;doing needs 0 age 1;doing needs 0 age 2;doing needs 0 age 3;doing;doing but 0;");
        DUE.same("both know it", x.alone(0, 0), -1);
        aloneWay(x, 0, 1, 10);
        aloneWay(x, 1, 1, 0);
        aloneWay(x, 0, 2, 10, 99);
        aloneWay(x, 1, 2, 0, 99);
        DUE.same("both do it", x.alone(0, 3), -1);
        DUE.same("both know it", x.alone(1, 4), -1);
        x.days(1);
        x.tell(0, 0);
        aloneWay(x, 1, 1);
        aloneWay(x, 1, 2, 99);
        DUE.same("0 is behind for good, but for the last", x.alone(0, 2), -1);
        x.days(1);
        aloneWay(x, 1, 2);
        x.days(1);
        DUE.same("both do it now", x.alone(1, 2), -1);
    }

    private static void aloneOrder() {
        DUE.says("ALONE: likewise (the fewest; of like ones the first)");
        // The other one must come to know it, or this one must be told: tellings of 0 first, a day last.
        BothKnow x = Due.told("house;fact;fact;doing but 0;doing needs 1 age 2 but 0;comes:0;knows 1 1 1;");
        aloneWay(x, 1, 0, 0);
        aloneWay(x, 0, 0, 10);
        aloneWay(x, 1, 1, 99);
        aloneWay(x, 0, 1, 1, 10, 99);
        BothKnow y = Due.told("house;fact;fact;fact;fact;doing but 2;doing but 3;comes:0;");
        aloneWay(y, 1, 0, 2);
        aloneWay(y, 0, 1, 13);
    }

    // ---- rows

    private static void lengthsOfRows() {
        DUE.says("ROWS of just n (0 to 12). -3");
        BothKnow x = Due.told("house;fact;doing;");
        long all = 1;
        for (int n = 0; n <= 12; n++) {
            DUE.same("rows(1, 1, " + n + ")", x.rows(1, 1, n), all);
            all *= 3;
        }
        DUE.same("rows(1, 1, -1)", x.rows(1, 1, -1), -3);
        DUE.same("rows(1, 1, 13)", x.rows(1, 1, 13), -3);
        for (int wild : WILD) {
            DUE.same("rows(0, 0, " + wild + ")", x.rows(0, 0, wild), -3);
        }
    }

    private static void manyRows() {
        DUE.says("How many ROWS there are: more than an int holds");
        BothKnow x = Due.told("house;fact;fact;fact;fact;doing;doing but 3;doing needs 0 age 3;comes:0;");
        DUE.same("9 by 9, twelve times", x.rows(1, 1, 12), 282429536481L);
        DUE.same("0 isn't told 3", x.rows(2, 0, 12), 68719476736L);
        DUE.same("neither is", x.rows(2, 2, 12), 13841287201L);
        DUE.same("eleven", x.rows(2, 2, 11), 1977326743L);
    }

    private static void rowsOfJustN() {
        DUE.says("behind which a GOAL is");
        BothKnow x = Due.told("house;fact;doing but 0;doing needs 0 age 1;doing needs 0 age 2;comes:0;");
        for (int n = 0; n <= 12; n++) {
            long three = (long) Math.pow(3, n);
            DUE.same("it isn't known, " + n, x.rows(1, 0, n), 1L << n);
            DUE.same("it is, " + n, x.rows(2, 0, n), three - (1L << n));
            DUE.same("to neither, " + n, x.rows(1, 1, n), 1);
            DUE.same("to both, " + n, x.rows(2, 2, n), three - 2 * (1L << n) + 1);
        }
        // Told, and a day behind it: of three, 0 first, then a day among two others, or 0 second, then a day.
        DUE.same("old by three", x.rows(4, 0, 3), 5 + 2);
        BothKnow y = Due.told("house;fact;fact;doing needs 1 age 1;may:fact=0 and known=0 or fact=1 and known=1;comes:0;");
        DUE.same("one", y.rows(1, 0, 1), 0);
        DUE.same("two: 0, 1", y.rows(1, 0, 2), 1);
        // 0, 1 and what can be behind it, 10 or a day; what can be ahead of both or between them, 10 or a day.
        DUE.same("three", y.rows(1, 0, 3), 6);
    }

    private static void rowsFromNowOn() {
        DUE.says("A ROW: from now on");
        BothKnow x = Due.told("house;fact;doing needs 0 age 3;comes:bond;");
        DUE.same("bond 0", x.rows(1, 0, 2), 0);
        x.bond(3);
        // 10, and any of three behind; 0 or a day, then 10.
        DUE.same("bond 3", x.rows(1, 0, 2), 5);
        x.tell(1, 0);
        DUE.same("it is now", x.rows(1, 0, 2), 9);
        x.undo(1);
        DUE.same("undone", x.rows(1, 0, 2), 5);
        x.forget(0, 0);
        x.bond(2);
        // 10 and a day.
        DUE.same("bond 2", x.rows(1, 0, 2), 1);
    }

    // ---- needed, tellings

    private static void neededFacts() {
        DUE.says("FACTS without TELLING each of which there is no COMING to a GOAL, as bits");
        BothKnow x = Due.told("house;fact;fact;fact;fact;doing needs 0 age 1;doing needs 3 age 3;doing needs 0 age 1 needs 1 age 1 needs 2 age 1 needs 3 age 1;"
            + "doing needs 1 age 2;knows 0 1 1;knows 1 2 3;");
        DUE.same("the first", x.needed(1, 0), 1);
        DUE.same("the last", x.needed(0, 2), 8);
        DUE.same("all but what 0 knows", x.needed(4, 0), 1 + 4 + 8);
        DUE.same("all but what 1 knows", x.needed(0, 4), 1 + 2 + 8);
        DUE.same("all", x.needed(4, 4), 15);
        DUE.same("a day does it", x.needed(8, 0), 0);
        DUE.same("of both", x.needed(1, 2), 9);
        // Either of two facts opens the third.
        BothKnow y = Due.told("house;fact;fact;fact;doing needs 2 age 1;comes:0;may:fact<2 or known>0;");
        DUE.same("either would do", y.needed(1, 0), 4);
        BothKnow z = Due.told("house;fact;fact;fact;doing needs 2 age 1;comes:0;may:fact<2 or known>1;");
        DUE.same("both of them", z.needed(1, 0), 7);
    }

    private static void neededOfNone() {
        DUE.says("(0: there is none anyhow)");
        BothKnow x = Due.told("house;fact;doing needs 0 age 1;doing but 0;may:1=2;knows 0 0 3;");
        DUE.same("it can't be told", x.needed(0, 1), 0);
        DUE.same("it is known", x.needed(2, 0), 0);
        DUE.same("it is now", x.needed(1, 2), 0);
        DUE.same("nothing", x.needed(0, 0), 0);
    }

    private static void fewestTellings() {
        DUE.says("The fewest TELLINGS in a ROW, however many DAYS");
        BothKnow x = Due.told("house;fact;doing needs 0 age 1;doing needs 0 age 2;doing needs 0 age 3;comes:3;");
        DUE.same("none", x.tellings(0, 0), 0);
        DUE.same("one", x.tellings(1, 1), 1);
        DUE.same("one and a day", x.tellings(2, 2), 1);
        DUE.same("one and two days", x.tellings(4, 4), 1);
        way(x, 4, 4, 0, 10);
        x.tell(0, 0);
        DUE.same("days alone", x.tellings(4, 4), 0);
        BothKnow y = Due.told("house;fact;fact;fact;fact;doing needs 0 age 3 needs 1 age 3 needs 2 age 3 needs 3 age 3;comes:0;knows 0 0 1;");
        DUE.same("three", y.tellings(1, 0), 3);
        DUE.same("four", y.tellings(0, 1), 4);
        DUE.same("seven", y.tellings(1, 1), 7);
        BothKnow z = Due.told("house;fact;fact;doing needs 0 age 3 but 1;doing needs 0 age 2 needs 1 age 1;comes:0;may:fact=0 or known=1;");
        DUE.same("one", z.tellings(1, 0), 1);
        DUE.same("two", z.tellings(2, 0), 2);
        DUE.same("can't be", z.tellings(3, 0), -1);
    }

    // ---- what can be

    private static void doingsOneCanDo() {
        DUE.says("DOINGS a TWIN can DO by some ROW, as bits. -2");
        BothKnow x = Due.told("house;fact;fact;doing but 0;doing needs 0 age 3;doing needs 1 age 1;doing needs 0 age 1 but 1;doing;doing needs 0 age 2 needs 1 age 1;"
            + "may:fact=0;comes:0;knows 1 1 2;");
        DUE.same("can(0)", x.can(0), 1 + 2 + 8 + 16);
        DUE.same("can(1)", x.can(1), 1 + 2 + 4 + 16 + 32);
        DUE.same("can(-1)", x.can(-1), -2);
        DUE.same("can(2)", x.can(2), -2);
        for (int wild : WILD) {
            DUE.same("can(" + wild + ")", x.can(wild), -2);
        }
        x.tell(0, 0);
        DUE.same("what is known stays known", x.can(0), 2 + 8 + 16);
        DUE.same("no doings", Due.told("house;fact;").can(0), 0);
        DUE.same("all six", Due.told("house;doing;doing;doing;doing;doing;doing;").can(1), 63);
    }

    private static void waysAgesCanBe() {
        DUE.says("In how many ways AGES of all can be by some ROW (as they are, too)");
        int all = 1;
        for (int facts = 0; facts <= 4; facts++) {
            DUE.same("all ages of " + facts, Due.told("house;" + "fact;".repeat(facts) + "comes:0;").stands(), all);
            all *= 16;
        }
        DUE.same("a new object", new BothKnow().stands(), 1);
        DUE.same("nothing can be told", Due.told("house;fact;fact;fact;fact;may:1=2;").stands(), 1);
        DUE.same("days alone", Due.told("house;fact;may:1=2;knows 0 0 1;").stands(), 3);
        DUE.same("one day", Due.told("house;fact;may:1=2;knows 0 0 1;knows 1 0 2;").stands(), 3);
        DUE.same("all is old", Due.told("house;fact;knows 0 0 3;knows 1 0 3;").stands(), 1);
        // By 0: 0 3, then 1 3, 2 3, 3 3; by 1: 3 1, 3 2.
        DUE.same("three come", Due.told("house;fact;comes:3;").stands(), 6);
    }

    private static void mostAtOneTime() {
        DUE.says("The most DOINGS both can DO at one time, each counted");
        DUE.same("none", new BothKnow().most(), 0);
        DUE.same("twelve", Due.told("house;doing;doing;doing;doing;doing;doing;").most(), 12);
        DUE.same("not all at one time", Due.told("house;fact;doing but 0;doing needs 0 age 1;comes:0;").most(), 2);
        DUE.same("none ever", Due.told("house;fact;doing needs 0 age 1;may:1=2;").most(), 0);
        DUE.same("one of them alone", Due.told("house;fact;doing needs 0 age 3;may:1=2;knows 1 0 1;").most(), 1);
        BothKnow x = Due.told("house;fact;fact;doing but 0;doing but 0;doing but 0;doing needs 0 age 1;doing needs 1 age 3;comes:0;");
        DUE.same("0 isn't told, 1 is", x.most(), 8);
        x.tell(0, 0);
        DUE.same("0 was told", x.most(), 2 + 4);
    }

    private static void secrets() {
        DUE.says("TWINS to whom a FACT can be TOLD now so that it isn't known to the other one then, as bits. -2");
        for (int facts = 0; facts <= 4; facts++) {
            BothKnow x = Due.told("house;" + "fact;".repeat(facts) + "comes:0;");
            for (int f = -1; f <= 5; f++) {
                DUE.same("secret(" + f + ") of " + facts, x.secret(f), f >= 0 && f < facts ? 3 : -2);
            }
            for (int wild : WILD) {
                DUE.same("secret(" + wild + ")", x.secret(wild), -2);
            }
        }
        for (int age = 0; age <= 3; age++) {
            DUE.same("0 knows it at " + age, Due.told("house;fact;fact;comes:0;knows 0 1 " + age + ";").secret(1), age == 0 ? 3 : 1);
            DUE.same("1 knows it at " + age, Due.told("house;fact;fact;comes:0;knows 1 1 " + age + ";").secret(1), age == 0 ? 3 : 2);
            DUE.same("it comes at " + age, Due.told("house;fact;comes:" + age + ";").secret(0), age == 0 ? 3 : 0);
            DUE.same("it comes from 1 at " + age, Due.told("house;fact;comes:twin*" + age + ";").secret(0), age == 0 ? 3 : 1);
        }
        DUE.same("1 can't be told", Due.told("house;fact;comes:0;may:twin=0;").secret(0), 1);
        DUE.same("0 can't be told", Due.told("house;fact;comes:0;may:twin=1;").secret(0), 2);
        DUE.same("none can be", Due.told("house;fact;comes:0;may:1=2;").secret(0), 0);
        DUE.same("without a law it comes", Due.told("house;fact;").secret(0), 0);
        DUE.same("less than nothing comes", Due.told("house;fact;comes:0-5;").secret(0), 3);
    }

    private static void overhearing() {
        DUE.says("FACTS a TWIN doesn't know now, but can come to know by some ROW in which the other one alone is TOLD, as bits. -2");
        BothKnow x = Due.told("house;fact;fact;fact;fact;comes:if fact=known then 1 else 0 end;knows 0 1 1;");
        // 1 is told 0 first, then 1 to 3 in order, and each comes; 1 is known to 0 already.
        DUE.same("overhears(0)", x.overhears(0), 1 + 4 + 8);
        // 0 knows one: told 1 it comes, told another one first, 2 and 3 come in order; 0 alone comes no more.
        DUE.same("overhears(1)", x.overhears(1), 2 + 4 + 8);
        DUE.same("overhears(-1)", x.overhears(-1), -2);
        DUE.same("overhears(2)", x.overhears(2), -2);
        for (int wild : WILD) {
            DUE.same("overhears(" + wild + ")", x.overhears(wild), -2);
        }
        DUE.same("all", Due.told("house;fact;fact;fact;fact;").overhears(0), 15);
        DUE.same("nothing comes", Due.told("house;fact;comes:0;").overhears(0), 0);
        DUE.same("it is told itself: no", Due.told("house;fact;comes:2;may:twin=0;").overhears(0), 0);
        DUE.same("the other one is", Due.told("house;fact;comes:2;may:twin=0;").overhears(1), 1);
        BothKnow y = Due.told("house;fact;fact;comes:theirs;");
        DUE.same("only if it knows one itself", y.overhears(0), 0);
        y.tell(0, 0);
        DUE.same("now it does", y.overhears(0), 2);
        y.forget(0, 0);
        y.tell(0, 1);
        DUE.same("the other fact", y.overhears(0), 1);
    }

    private static void withoutFacts() {
        DUE.says("without FACTS: DAYS alone");
        BothKnow x = new BothKnow();
        DUE.same("soonest", x.soonest(0, 0), 0);
        DUE.same("way", x.way(0, 0, 0), -1);
        DUE.same("rows of 12", x.rows(0, 0, 12), 1);
        DUE.same("needed", x.needed(0, 0), 0);
        DUE.same("tellings", x.tellings(0, 0), 0);
        DUE.same("can", x.can(0) + x.can(1), 0);
        DUE.same("overhears", x.overhears(0) + x.overhears(1), 0);
        DUE.same("secret", x.secret(0), -2);
        BothKnow y = Due.told("house;doing;doing;");
        DUE.same("soonest", y.soonest(3, 3), 0);
        DUE.same("rows of 12", y.rows(3, 3, 12), 1);
        DUE.same("alone", y.alone(0, 0), -1);
    }

    private static void askedOfEachHouseAnew() {
        DUE.says("from now on: of the house that there is");
        for (int between = 0; between <= 6; between++) {
            BothKnow x = Due.told("house;fact;doing needs 0 age 1;comes:0;");
            DUE.same("soonest", x.soonest(1, 1), 2);
            DUE.same("stands", x.stands(), 16);
            DUE.same("overhears", x.overhears(0), 0);
            for (int k = 0; k < between; k++) {
                Due.read(x, "house;fact;bond 1;");
            }
            Due.read(x, "house;fact;doing needs 0 age 3;comes:3;");
            DUE.same("overhears behind " + between, x.overhears(0), 1);
            DUE.same("soonest behind " + between, x.soonest(1, 1), 2);
            DUE.same("way behind " + between, x.way(1, 1, 1), 10);
            DUE.same("stands behind " + between, x.stands(), 6);
            DUE.same("needed behind " + between, x.needed(1, 0), 1);
            for (int k = 0; k < between; k++) {
                Due.read(x, "house;fact;bond 1;");
            }
            Due.read(x, "house;fact;doing needs 0 age 3;comes:0;may:twin=0;");
            DUE.same("needed behind " + between, x.needed(1, 0), 1);
            DUE.same("of none behind " + between, x.needed(0, 1), 0);
            DUE.same("stands behind " + between, x.stands(), 4);
        }
    }

    private static void askedOfImages() {
        DUE.says("All that is in an IMAGE is as it was: THE HOUSE, and what is asked of it");
        BothKnow x = Due.told("house;fact;doing needs 0 age 1;comes:0;");
        x.image(0);
        Due.read(x, "house;fact;doing needs 0 age 3;comes:3;may:twin=1;");
        x.image(1);
        for (int k = 0; k < 4; k++) {
            boolean first = k % 2 == 0;
            x.restore(k % 2);
            DUE.same("soonest", x.soonest(1, 0), 1);
            DUE.same("way", x.way(1, 0, 0), first ? 0 : 10);
            DUE.same("stands", x.stands(), first ? 16 : 4);
            DUE.same("overhears", x.overhears(0), first ? 0 : 1);
            DUE.same("needed", x.needed(1, 1), 1);
            DUE.same("tellings", x.tellings(1, 1), first ? 2 : 1);
            DUE.same("rows", x.rows(1, 0, 1), 1);
            DUE.same("forces", x.forces(0, 0), 1);
            DUE.same("best", x.best(0, 0), first ? 0 : 10);
            DUE.same("chance", x.chance(0, 0, 1, 1), 2);
        }
    }

    private static void askedByTurns() {
        DUE.says("questions change nothing: each is answered as if it were the first");
        BothKnow x = Due.told("house;fact;fact;doing needs 0 age 2;doing needs 1 age 1;comes:if fact=1 then known else 0 end;");
        for (int k = 0; k < 3; k++) {
            // 1 is told 0 and then 1, which comes to 0; told 1 itself 0 knows it.
            DUE.same("overhears(0)", x.overhears(0), 2);
            DUE.same("tellings", x.tellings(1, 1), 2);
            DUE.same("overhears(0) behind it", x.overhears(0), 2);
            DUE.same("needed", x.needed(1, 2), 3);
            DUE.same("tellings", x.tellings(3, 0), 2);
            DUE.same("needed behind it", x.needed(1, 2), 3);
            DUE.same("overhears(1)", x.overhears(1), 2);
            DUE.same("needed of one", x.needed(0, 1), 1);
            DUE.same("rows", x.rows(1, 0, 2), 1);
        }
    }

    private static void nothingElseIsDone() {
        DUE.says("questions change nothing");
        BothKnow x = Due.told("house;fact;fact;doing needs 0 age 2;doing but 1;knows 0 0 1;bond 3;comes:bond-2;");
        x.days(1);
        for (int k = 0; k < 2; k++) {
            x.soonest(1, 1);
            x.way(1, 1, 0);
            x.alone(0, 0);
            x.aloneWay(1, 1, 0);
            x.rows(1, 1, 5);
            x.needed(1, 1);
            x.tellings(1, 1);
            x.can(0);
            x.stands();
            x.most();
            x.secret(0);
            x.overhears(1);
        }
        DUE.same("ages", x.age(0, 0) * 1000 + x.age(0, 1) * 100 + x.age(1, 0) * 10 + x.age(1, 1), 2000);
        DUE.same("bond", x.count(4), 3);
        DUE.same("calls", x.count(6), 1);
    }
}
