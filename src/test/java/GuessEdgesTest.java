/** Promises 29 to 37 and their terms, an edge at a time: who was told, bonds, forcing, chances. */
public final class GuessEdgesTest {
    private static final Due DUE = new Due();
    private static final int[] WILD = {Integer.MIN_VALUE, Integer.MIN_VALUE + 1, -1000000, -2, -1,
        1000000, 1 << 16, 1 << 30, Integer.MAX_VALUE};

    public static void main(String[] args) {
        oneToTenFacts();
        factsOfTheTray();
        justTheToldSets();
        aDayBehindEach();
        eachCouldBeTold();
        placesOfWhom();
        firstOfTheRows();
        surelyOfATwin();
        toldWithoutRows();
        byTheBondThereIs();
        oneToTwelveDeeds();
        tellingsAndDaysAlone();
        bondsAsBits();
        allCanBeDone();
        bondsFromNowOn();
        attemptsAreLeast();
        attemptsAmongFew();
        attemptsOfLikeOnes();
        attemptsThatCantBe();
        forcesWithinTurns();
        notWithinSix();
        someTimeByThen();
        friendFirst();
        bestIsTheFirst();
        forcingOfTwinsAndDoings();
        drawsFrom0To4();
        lowestTerms();
        drawsThatCantBeTold();
        chanceWithoutFacts();
        whatOfAChance();
        likeliestIsTheFirst();
        likeliestRefused();
        DUE.end();
    }

    private static void same(BothKnow x, int tray, int n, long v) {
        x.numbers(tray, 3, n);
        for (int k = 0; k < n; k++) {
            x.write(tray, k, v);
        }
    }

    // ---- who was told

    private static void oneToTenFacts() {
        DUE.says("WHO WAS TOLD: the numbers of a TRAY (1 to 10). -4: not 1 to 10 numbers");
        BothKnow x = Due.told("house;fact;fact;");
        for (int n = 0; n <= 40; n++) {
            boolean fine = n >= 1 && n <= 10;
            same(x, n % 4, n, 1);
            DUE.same("told of " + n, x.told(n % 4, 0, 0), fine ? 1 << n : -4);
            DUE.same("whom of " + n, x.whom(n % 4, 0, 0, 0), fine ? 0 : -4);
            DUE.same("surely of " + n, x.surely(n % 4, 0, 0, 1), fine ? 0 : -4);
        }
        BothKnow y = Due.told("house;fact;may:twin=1;");
        same(y, 0, 10, 0);
        DUE.same("one row of ten", y.told(0, 0, 0), 1);
        DUE.same("all ten places", y.surely(0, 0, 0, 1), 1023);
        DUE.same("none of 0", y.surely(0, 0, 0, 0), 0);
    }

    private static void factsOfTheTray() {
        DUE.says("-3: one is no FACT");
        for (int facts = 0; facts <= 4; facts++) {
            BothKnow x = Due.told("house;" + "fact;".repeat(facts));
            long[] numbers = {0, 1, 2, 3, 4, 9, 10, 11, -1, -2, 100, 1L << 8, 1L << 16, 1L << 32, 1L << 63, (1L << 32) - 1, Long.MAX_VALUE};
            for (long v : numbers) {
                boolean fine = v >= 0 && v < facts;
                Due.tray(x, 0, v);
                DUE.same("told " + v + " of " + facts, x.told(0, 0, 0), fine ? 2 : -3);
                if (facts > 0) {
                    Due.tray(x, 0, 0, 0, v);
                    DUE.same("at the last place " + v, x.told(0, 0, 0), fine ? 8 : -3);
                    Due.tray(x, 0, v, 0, 0);
                    DUE.same("whom, at the first place " + v, x.whom(0, 0, 0, 0), fine ? 0 : -3);
                    DUE.same("surely, at the first place " + v, x.surely(0, 0, 0, 0), fine ? 0 : -3);
                }
            }
        }
    }

    private static void justTheToldSets() {
        DUE.says("by which TWIN 0 then DOES just a told set of DOINGS, TWIN 1 just another one");
        BothKnow x = Due.told("house;fact;doing;doing needs 0 age 1;comes:0;");
        Due.tray(x, 0, 0);
        int[][] due = {{0, 0, 0, 0}, {0, 0, 0, 1}, {0, 0, 0, 0}, {0, 1, 0, 0}};
        for (int first = 0; first < 4; first++) {
            for (int second = 0; second < 4; second++) {
                DUE.same("told(0, " + first + ", " + second + ")", x.told(0, first, second), due[first][second]);
            }
        }
        DUE.same("at least isn't just", x.told(0, 0, 0) + x.told(0, 1, 1) + x.told(0, 2, 0), 0);
    }

    private static void aDayBehindEach() {
        DUE.says("told one behind the other from now on, a DAY behind each");
        BothKnow x = Due.told("house;fact;doing needs 0 age 1;doing needs 0 age 2;doing needs 0 age 3;comes:0;");
        Due.tray(x, 0, 0);
        DUE.same("one day", x.told(0, 3, 0), 1);
        DUE.same("not without it", x.told(0, 1, 0), 0);
        Due.tray(x, 0, 0, 0);
        DUE.same("told first, or twice", x.told(0, 7, 0), 1);
        DUE.same("each once", x.told(0, 7, 3), 1);
        DUE.same("the other way round", x.told(0, 3, 7), 1);
        x.tell(1, 0);
        Due.tray(x, 0, 0);
        DUE.same("from now on", x.told(0, 3, 3), 1);
        DUE.same("its other row", x.told(0, 0, 3), 1);
        DUE.same("nothing is done", x.age(1, 0), 1);
    }

    private static void eachCouldBeTold() {
        DUE.says("ROWS of TWINS (each could be told)");
        BothKnow x = Due.told("house;fact;fact;doing;comes:0;may:known=0;");
        Due.tray(x, 0, 0, 1);
        DUE.same("each is told once", x.told(0, 1, 1), 2);
        Due.tray(x, 0, 0, 1, 0);
        DUE.same("a third can't be", x.told(0, 1, 1), 0);
        DUE.same("whom", x.whom(0, 1, 1, 0), -1);
        DUE.same("surely", x.surely(0, 1, 1, 0) + x.surely(0, 1, 1, 1), 0);
        BothKnow y = Due.told("house;fact;fact;doing;comes:0;may:fact=0 or theirs=1 and known=0;");
        Due.tray(y, 0, 0, 1);
        DUE.same("it opens on the way", y.told(0, 1, 1), 2);
        DUE.same("0, then 1", y.whom(0, 1, 1, 0) * 10 + y.whom(0, 1, 1, 1), 1);
        Due.tray(y, 0, 1);
        DUE.same("not ahead", y.told(0, 1, 1), 0);
        BothKnow z = Due.told("house;fact;doing;bond 3;comes:bond-3;");
        Due.tray(z, 0, 0);
        DUE.same("by the bond there is", z.told(0, 1, 1), 2);
    }

    private static void placesOfWhom() {
        DUE.says("The i-th TWIN of the first of these ROWS. NONE: not so many; -3: also i is below 0");
        BothKnow x = Due.told("house;fact;fact;doing needs 0 age 1;doing needs 1 age 1;comes:0;");
        Due.tray(x, 0, 0, 1, 0, 1, 0, 1, 0, 1, 0, 1);
        int[] row = {1, 0, 1, 0, 1, 0, 1, 0, 1, 0};
        for (int i = 0; i < 10; i++) {
            DUE.same("whom " + i, x.whom(0, 2, 1, i), row[i]);
        }
        DUE.same("one row", x.told(0, 2, 1), 1);
        DUE.same("surely 0", x.surely(0, 2, 1, 0), 0x2AA);
        DUE.same("surely 1", x.surely(0, 2, 1, 1), 0x155);
        DUE.same("whom 10", x.whom(0, 2, 1, 10), -1);
        for (int wild : WILD) {
            DUE.same("whom " + wild, x.whom(0, 2, 1, wild), wild < 0 ? -3 : -1);
        }
        DUE.same("whom 32: no wrapping around", x.whom(0, 2, 1, 32), -1);
        DUE.same("whom -1 without rows", x.whom(0, 0, 0, -1), -3);
        Due.tray(x, 0, 0);
        DUE.same("the only one", x.whom(0, 0, 1, 0), 1);
        DUE.same("behind it", x.whom(0, 0, 1, 1), -1);
    }

    private static void firstOfTheRows() {
        DUE.says("the first of these ROWS");
        BothKnow x = Due.told("house;fact;doing needs 0 age 1;comes:0;");
        Due.tray(x, 0, 0, 0, 0);
        // Of 001, 010, 011, 100, 101, 110 the first.
        DUE.same("rows", x.told(0, 1, 1), 6);
        DUE.same("001", x.whom(0, 1, 1, 0) * 100 + x.whom(0, 1, 1, 1) * 10 + x.whom(0, 1, 1, 2), 1);
        DUE.same("none surely 1", x.surely(0, 1, 1, 1), 0);
        DUE.same("none surely 0", x.surely(0, 1, 1, 0), 0);
        BothKnow y = Due.told("house;fact;doing needs 0 age 3;comes:0;");
        Due.tray(y, 0, 0, 0, 0);
        // Both are old by then: told at the first or the second: 010, 011, 100, 101.
        DUE.same("rows", y.told(0, 1, 1), 4);
        DUE.same("010", y.whom(0, 1, 1, 0) * 100 + y.whom(0, 1, 1, 1) * 10 + y.whom(0, 1, 1, 2), 10);
    }

    private static void surelyOfATwin() {
        DUE.says("Places of the TRAY at which the TWIN what (0, 1) was told in all of these ROWS, as bits. -2: also what");
        BothKnow x = Due.told("house;fact;doing needs 0 age 3;comes:0;");
        Due.tray(x, 0, 0, 0, 0);
        // 0 is old and 1 isn't: 000, 001.
        DUE.same("0 surely", x.surely(0, 1, 0, 0), 3);
        DUE.same("1 surely", x.surely(0, 1, 0, 1), 0);
        DUE.same("the other way round, 1", x.surely(0, 0, 1, 1), 3);
        DUE.same("the other way round, 0", x.surely(0, 0, 1, 0), 0);
        for (int what = -3; what <= 4; what++) {
            if (what < 0 || what > 1) {
                DUE.same("surely of " + what, x.surely(0, 1, 0, what), -2);
                DUE.same("what ahead of a set", x.surely(0, 2, 0, what), -2);
                DUE.same("what ahead of what is missing", x.surely(1, 0, 0, what), -2);
            }
        }
        for (int wild : WILD) {
            DUE.same("surely of " + wild, x.surely(0, 1, 0, wild), -2);
        }
        BothKnow y = Due.told("house;fact;may:twin=0;");
        same(y, 3, 10, 0);
        DUE.same("all ten", y.surely(3, 0, 0, 0), 1023);
    }

    private static void toldWithoutRows() {
        DUE.says("NONE: there are none; (0: there are no ROWS)");
        BothKnow x = Due.told("house;fact;doing needs 0 age 1;may:1=2;");
        same(x, 0, 10, 0);
        DUE.same("told", x.told(0, 0, 0), 0);
        DUE.same("whom 0", x.whom(0, 0, 0, 0), -1);
        DUE.same("whom 9", x.whom(0, 0, 0, 9), -1);
        DUE.same("surely 0", x.surely(0, 0, 0, 0), 0);
        DUE.same("surely 1", x.surely(0, 0, 0, 1), 0);
        BothKnow y = Due.told("house;fact;doing needs 0 age 1;comes:0;");
        Due.tray(y, 0, 0, 0);
        for (int k = 0; k < 2; k++) {
            DUE.same("1 surely", y.surely(0, 0, 1, 1), 3);
            DUE.same("there are no rows", y.surely(0, 0, 0, 1), 0);
            DUE.same("0 surely", y.surely(0, 1, 0, 0), 3);
            DUE.same("there are no rows", y.surely(0, 0, 0, 0), 0);
            DUE.same("1 in the row", y.whom(0, 0, 1, 0), 1);
            DUE.same("no row", y.whom(0, 0, 0, 0), -1);
        }
    }

    private static void byTheBondThereIs() {
        DUE.says("bond: the BOND (as it is now)");
        BothKnow x = Due.told("house;fact;doing needs 0 age 3;comes:bond;bond 9;");
        Due.tray(x, 0, 0);
        for (int bond : new int[] {9, 2, 0, 3, 1}) {
            x.bond(bond);
            boolean comes = bond >= 2;
            DUE.same("told by " + bond, x.told(0, 0, 1), comes ? 1 : 0);
            DUE.same("whom by " + bond, x.whom(0, 0, 1, 0), comes ? 0 : -1);
            DUE.same("surely by " + bond, x.surely(0, 1, 0, 1), comes ? 1 : 0);
            DUE.same("forces by " + bond, x.forces(1, 0), bond >= 3 ? 1 : bond == 2 ? 3 : 5);
            DUE.same("best by " + bond, x.best(1, 0), bond >= 2 ? 0 : bond == 1 ? 0 : 10);
            DUE.same("chance by " + bond, x.chance(1, 0, 1, 0), comes ? 1 : 0);
            DUE.same("chance by " + bond, x.chance(1, 0, 1, 1), comes ? 2 : 1);
            DUE.same("soonest by " + bond, x.soonest(0, 1), bond >= 3 ? 1 : bond == 2 ? 2 : 3);
        }
    }

    // ---- bonds

    private static void oneToTwelveDeeds() {
        DUE.says("the DEEDS of a TRAY (1 to 12). -4: not 1 to 12 numbers");
        BothKnow x = Due.told("house;fact;");
        for (int n = 0; n <= 40; n++) {
            boolean fine = n >= 1 && n <= 12;
            same(x, n % 4, n, n % 2 == 0 ? -1 : 10);
            DUE.same("bonds of " + n, x.bonds(n % 4, 0, 0), fine ? 1023 : -4);
            DUE.same("attempt of " + n, x.attempt(n % 4, 0, 0), fine ? 0 : -4);
        }
        BothKnow y = Due.told("house;fact;doing needs 0 age 1;comes:0;");
        same(y, 0, 12, -1);
        y.write(0, 11, 0);
        DUE.same("the twelfth is done", y.bonds(0, 1, 0), 1023);
        y.write(0, 0, 10);
        DUE.same("the first is done", y.bonds(0, 1, 1), 1023);
    }

    private static void tellingsAndDaysAlone() {
        DUE.says("-3: one is no TELLING of a TWIN, a FACT, nor NONE");
        for (int facts = 0; facts <= 4; facts++) {
            BothKnow x = Due.told("house;" + "fact;".repeat(facts));
            for (long v = -260; v <= 260; v++) {
                boolean fine = v == -1 || v >= 0 && v < 20 && v % 10 < facts;
                Due.tray(x, 0, v);
                DUE.same("bonds of " + v + " of " + facts, x.bonds(0, 0, 0), fine ? 1023 : -3);
                Due.tray(x, 0, -1, v, -1);
                DUE.same("attempt of " + v + " of " + facts, x.attempt(0, 0, 0), fine ? facts > 0 ? 0 : -1 : -3);
                Due.tray(x, 0, -1, v);
                DUE.same("at the last place " + v, x.bonds(0, 0, 0), fine ? 1023 : -3);
            }
            for (long v : new long[] {1L << 32, (1L << 32) - 1, 1L << 63, Long.MAX_VALUE, (1L << 32) + 10, -(1L << 32)}) {
                Due.tray(x, 0, v);
                DUE.same("bonds of " + v, x.bonds(0, 0, 0), -3);
                DUE.same("attempt of " + v, x.attempt(0, 0, 0), -3);
            }
        }
    }

    private static void bondsAsBits() {
        DUE.says("BONDS 0 to 9 by which both then DO just told sets, as bits");
        for (int bond = 0; bond <= 9; bond++) {
            BothKnow x = Due.told("house;fact;doing needs 0 age 1;doing;comes:if bond=" + bond + " then 1 else 0 end;");
            Due.tray(x, 0, 0);
            DUE.same("that one", x.bonds(0, 3, 3), 1 << bond);
            DUE.same("all others", x.bonds(0, 3, 2), 1023 & ~(1 << bond));
            DUE.same("at least isn't just", x.bonds(0, 2, 2) + x.bonds(0, 1, 1) + x.bonds(0, 0, 0), 0);
        }
        BothKnow x = Due.told("house;fact;doing needs 0 age 1;doing needs 0 age 2;doing needs 0 age 3;comes:bond-3;");
        Due.tray(x, 1, 0);
        DUE.same("0 to 3", x.bonds(1, 1, 0), 15);
        DUE.same("4", x.bonds(1, 1, 1), 16);
        DUE.same("5", x.bonds(1, 1, 3), 32);
        DUE.same("6 to 9", x.bonds(1, 1, 7), 64 + 128 + 256 + 512);
        DUE.same("none", x.bonds(1, 7, 7), 0);
        Due.tray(x, 1, 0, -1, -1);
        DUE.same("and days", x.bonds(1, 7, 7), 1023 - 15);
    }

    private static void allCanBeDone() {
        DUE.says("(all can be done)");
        BothKnow x = Due.told("house;fact;fact;doing;comes:bond-4;may:fact=0 or theirs=1;");
        // 1 is told behind 0: by bonds from 5 on both know the first.
        Due.tray(x, 0, 0, 1);
        DUE.same("the other one must know it", x.bonds(0, 1, 1), 1023 - 31);
        Due.tray(x, 0, 1, 0);
        DUE.same("the first can't be", x.bonds(0, 1, 1), 0);
        Due.tray(x, 0, 0, -1, 11);
        DUE.same("0 knows it by all", x.bonds(0, 1, 1), 1023);
        Due.tray(x, 0, 0, 1, -1);
        DUE.same("what can't be isn't left out", x.bonds(0, 1, 1), 1023 - 31);
    }

    private static void bondsFromNowOn() {
        DUE.says("being done from now on");
        BothKnow x = Due.told("house;fact;doing needs 0 age 2;comes:0;bond 9;");
        Due.tray(x, 0, -1);
        DUE.same("nobody knows it", x.bonds(0, 0, 0), 1023);
        x.tell(1, 0);
        DUE.same("1 knows it", x.bonds(0, 0, 1), 1023);
        DUE.same("and not as it was", x.bonds(0, 0, 0), 0);
        DUE.same("the bond stays", x.count(4), 9);
        DUE.same("no day went by", x.age(1, 0), 1);
        DUE.same("one call", x.count(6), 1);
    }

    private static void attemptsAreLeast() {
        DUE.says("the greatest number of these BONDS by which the other one's AGE of the FACT is the same then is least");
        // Fact 0 tells 9 of all, fact 1 0 to 4 and 5 to 9, fact 2 four ages: 0 to 2, 3 to 5, 6 to 8, 9.
        String comes = "comes:if fact=0 then if bond=9 then 1 else 0 end else if fact=1 then if bond<5 then 0 else 3 end else "
            + "if bond<3 then 0 else if bond<6 then 1 else if bond<9 then 2 else 3 end end end end end;";
        BothKnow x = Due.told("house;fact;fact;fact;doing needs 0 age 1;" + comes);
        Due.tray(x, 0, -1);
        DUE.same("of all the third", x.attempt(0, 0, 0), 2);
        Due.tray(x, 0, 0);
        DUE.same("9 alone: the first", x.attempt(0, 1, 1), 0);
        DUE.same("all but 9: the third", x.attempt(0, 1, 0), 2);
        BothKnow y = Due.told("house;fact;fact;fact;doing needs 0 age 1;knows 1 2 3;" + comes);
        Due.tray(y, 0, -1);
        // The other one knows the third for good: told to 0 nothing is seen, told to 1 it is.
        DUE.same("told to 1", y.attempt(0, 0, 0), 12);
        BothKnow z = Due.told("house;fact;fact;fact;doing needs 0 age 1;knows 1 2 2;" + comes);
        Due.tray(z, 0, -1);
        // Told to 0: nine at 2, one at 3.
        DUE.same("told to 1 still", z.attempt(0, 0, 0), 12);
        BothKnow w = Due.told("house;fact;fact;fact;doing needs 0 age 1;knows 1 2 1;knows 0 2 1;" + comes);
        Due.tray(w, 0, -1);
        // The third: six at 1; the second: five.
        DUE.same("the second", w.attempt(0, 0, 0), 1);
    }

    private static void attemptsAmongFew() {
        DUE.says("these BONDS: no others are counted");
        // The tray leaves two bonds; fact 1 tells them apart, facts 0 and 2 don't, though they tell others apart.
        for (int bond = 0; bond < 9; bond++) {
            for (int fact = 1; fact <= 2; fact++) {
                BothKnow x = Due.told("house;fact;fact;fact;doing needs 0 age 1;comes:if fact=0 then if bond=" + bond + " or bond=" + (bond + 1)
                    + " then 1 else 0 end else if fact=" + fact + " then if bond=" + bond + " then 2 else 1 end else if bond<" + bond
                    + " then 1 else if bond>" + (bond + 1) + " then 2 else 3 end end end end;");
                Due.tray(x, 0, 0);
                DUE.same("two bonds", x.bonds(0, 1, 1), 3 << bond);
                DUE.same("told apart by " + fact, x.attempt(0, 1, 1), fact);
            }
        }
    }

    private static void attemptsOfLikeOnes() {
        DUE.says("of those that can be TOLD now the first");
        BothKnow x = Due.told("house;fact;fact;doing;comes:0;");
        Due.tray(x, 0, -1);
        DUE.same("all are alike", x.attempt(0, 1, 1), 0);
        BothKnow y = Due.told("house;fact;fact;doing;comes:0;may:twin=1 and fact=1;");
        Due.tray(y, 0, -1);
        DUE.same("the last alone can be", y.attempt(0, 1, 1), 11);
        BothKnow z = Due.told("house;fact;fact;doing;comes:bond;may:twin=0 and fact=1 or twin=1;");
        Due.tray(z, 0, -1);
        DUE.same("the first that can be", z.attempt(0, 1, 1), 1);
        BothKnow w = Due.told("house;fact;fact;doing;comes:if fact=0 then bond else 0 end;may:not [fact=0 and twin=0];");
        Due.tray(w, 0, -1);
        DUE.same("the least that can be", w.attempt(0, 1, 1), 10);
        w.tell(1, 0);
        DUE.same("it can still be", w.attempt(0, 1, 1), 10);
    }

    private static void attemptsThatCantBe() {
        DUE.says("NONE: there are no BONDS, none can be");
        BothKnow x = Due.told("house;fact;doing;may:1=2;");
        Due.tray(x, 0, -1);
        DUE.same("none can be", x.attempt(0, 1, 1), -1);
        DUE.same("there are bonds", x.bonds(0, 1, 1), 1023);
        DUE.same("no bonds", x.attempt(0, 0, 0), -1);
        Due.tray(x, 0, 0);
        DUE.same("the tray's can't be", x.bonds(0, 1, 1), 0);
        DUE.same("so there are no bonds", x.attempt(0, 1, 1), -1);
        BothKnow y = Due.told("house;doing;");
        Due.tray(y, 0, -1);
        DUE.same("no facts", y.attempt(0, 1, 1), -1);
        // The tray tells what can be told at first, and nothing can be told behind it: now it can be.
        BothKnow z = Due.told("house;fact;doing;may:known=0 and theirs=0;");
        Due.tray(z, 0, 0);
        DUE.same("as things are now", z.attempt(0, 1, 1), 0);
        z.tell(0, 0);
        Due.tray(z, 0, -1);
        DUE.same("now none can be", z.attempt(0, 1, 1), -1);
    }

    // ---- forcing

    private static final String SIX_TURNS = "house;fact;fact;fact;doing needs 0 age 3 needs 1 age 1 needs 2 age 1;knows 0 0 1;comes:0;may:fact=known;";

    private static void forced(BothKnow x, int twin, int d, int turns, int best) {
        DUE.same("best(" + twin + ", " + d + ") at first", x.best(twin, d), best);
        DUE.same("forces(" + twin + ", " + d + ")", x.forces(twin, d), turns);
        DUE.same("best(" + twin + ", " + d + ")", x.best(twin, d), best);
    }

    private static void forcesWithinTurns() {
        DUE.says("within how many turns, at fewest (0: it DOES it)");
        forced(Due.told("house;doing;"), 0, 0, 0, -1);
        forced(Due.told("house;fact;doing needs 0 age 1;comes:0;"), 1, 0, 1, 10);
        // Nothing can be told: both let a day go by.
        forced(Due.told("house;fact;doing needs 0 age 3;knows 0 0 1;may:1=2;"), 0, 0, 2, 99);
        // Told, then nothing can be told any more.
        forced(Due.told("house;fact;doing needs 0 age 3;comes:0;may:known=0 and theirs=0;"), 0, 0, 3, 0);
        // The enemy has one telling to the other one.
        forced(Due.told("house;fact;doing needs 0 age 3;comes:0;may:known=0;"), 0, 0, 4, 0);
        // The enemy can always tell again.
        forced(Due.told("house;fact;doing needs 0 age 3;comes:0;"), 0, 0, 5, 0);
        // Two tellings and a day by the friend, two tellings to the other one by the enemy, who has no third: a day.
        forced(Due.told(SIX_TURNS + "knows 1 0 3;"), 0, 0, 6, 1);
    }

    private static void notWithinSix() {
        DUE.says("NONE: not within 6");
        // As above, but the enemy has a third telling: it would be seven turns.
        forced(Due.told(SIX_TURNS), 0, 0, -1, -1);
        // Two tellings and two days by the friend: seven turns.
        forced(Due.told("house;fact;fact;doing needs 0 age 3 needs 1 age 1;comes:0;"), 0, 0, -1, -1);
        // Three tellings are five turns, four are seven.
        forced(Due.told("house;fact;fact;fact;fact;doing needs 0 age 1 needs 1 age 1 needs 2 age 1;comes:0;"), 1, 0, 5, 10);
        forced(Due.told("house;fact;fact;fact;fact;doing needs 0 age 1 needs 1 age 1 needs 2 age 1 needs 3 age 1;comes:0;"), 1, 0, -1, -1);
        forced(Due.told("house;fact;doing needs 0 age 1;may:1=2;"), 0, 0, -1, -1);
        forced(Due.told("house;fact;doing but 0;knows 0 0 1;"), 0, 0, -1, -1);
    }

    private static void someTimeByThen() {
        DUE.says("if it DOES it some time by then, whatever the enemy does");
        // The enemy could spoil it in its turn, but it was done ahead of that.
        forced(Due.told("house;fact;fact;doing needs 0 age 1 but 1;comes:0;"), 0, 0, 1, 0);
        // Told at age 1 and spoilt by the enemy ahead of age 2.
        forced(Due.told("house;fact;fact;doing needs 0 age 2 but 1;comes:0;"), 0, 0, -1, -1);
        // Whatever the enemy does then, its telling or its day, brings it.
        forced(Due.told("house;fact;doing needs 0 age 2;comes:2;may:twin=0 and known=0 or twin=1 and theirs=1;"), 0, 0, 2, 0);
    }

    private static void friendFirst() {
        DUE.says("a friend and an enemy TELL by turns, the friend first (or let a DAY go by instead)");
        // If the enemy were first, it would spoil it.
        forced(Due.told("house;fact;fact;doing needs 0 age 2 but 1;comes:0;knows 0 0 1;"), 0, 0, 1, 99);
        // Fact 1 can be told as long as the other one knows none: the enemy would tell it at once.
        BothKnow x = Due.told("house;fact;fact;doing needs 0 age 1 needs 1 age 1;comes:0;may:fact=0 or theirs=0;");
        forced(x, 0, 0, 3, 1);
        // The enemy may let a day go by, where it has no telling but one that helps.
        forced(Due.told("house;fact;doing needs 0 age 1;comes:0;may:twin=0 and theirs=1 or twin=1 and known=0;"), 0, 0, 3, 10);
    }

    private static void bestIsTheFirst() {
        DUE.says("The first TELLING (99: a DAY, behind all) by which it does within as few. NONE: it doesn't, it DOES it");
        BothKnow x = Due.told("house;fact;fact;doing needs 0 age 1;doing needs 1 age 1;doing needs 1 age 2;doing;comes:1;");
        forced(x, 0, 0, 1, 0);
        forced(x, 0, 1, 1, 1);
        forced(x, 1, 1, 1, 1);
        forced(x, 1, 2, 3, 1);
        forced(x, 1, 3, 0, -1);
        x.tell(0, 1);
        forced(x, 0, 2, 1, 99);
        // A telling as good as a day is ahead of it.
        BothKnow y = Due.told("house;fact;fact;fact;fact;doing needs 3 age 2;knows 0 3 1;");
        forced(y, 0, 0, 1, 13);
        // A telling by which it does a turn later stands ahead of the day by which it does at once.
        forced(Due.told("house;fact;fact;doing needs 0 age 3;knows 0 0 2;comes:0;may:fact=1 and known+theirs=1;"), 0, 0, 1, 99);
        // The same of a telling: told fact 0 first it would do it in three turns, told fact 1 at once.
        BothKnow z = Due.told("house;fact;fact;doing needs 1 age 1;comes:0;");
        forced(z, 0, 0, 1, 1);
        forced(z, 1, 0, 1, 11);
    }

    private static void forcingOfTwinsAndDoings() {
        DUE.says("-2: the TWIN, the DOING");
        for (int doings = 0; doings <= 6; doings++) {
            BothKnow x = Due.told("house;" + "doing;".repeat(doings));
            for (int d = -1; d <= 7; d++) {
                for (int twin = -1; twin <= 2; twin++) {
                    boolean is = d >= 0 && d < doings && twin >= 0 && twin < 2;
                    DUE.same("forces(" + twin + ", " + d + ")", x.forces(twin, d), is ? 0 : -2);
                    DUE.same("best(" + twin + ", " + d + ")", x.best(twin, d), is ? -1 : -2);
                    DUE.same("chance(" + twin + ", " + d + ")", x.chance(twin, d, 0, 0), is ? 1 : -2);
                }
            }
            for (int wild : WILD) {
                DUE.same("forces(" + wild + ", 0)", x.forces(wild, 0), -2);
                DUE.same("forces(0, " + wild + ")", x.forces(0, wild), -2);
                DUE.same("best(" + wild + ", 0)", x.best(wild, 0), -2);
                DUE.same("best(0, " + wild + ")", x.best(0, wild), -2);
                DUE.same("chance(" + wild + ", 0)", x.chance(wild, 0, 0, 0), -2);
                DUE.same("chance(0, " + wild + ")", x.chance(0, wild, 0, 0), -2);
            }
        }
    }

    // ---- chances

    private static void chance(BothKnow x, int twin, int d, int n, int above, int below) {
        DUE.same("chance(" + twin + ", " + d + ", " + n + ", 0)", x.chance(twin, d, n, 0), above);
        DUE.same("chance(" + twin + ", " + d + ", " + n + ", 1)", x.chance(twin, d, n, 1), below);
    }

    private static void drawsFrom0To4() {
        DUE.says("n times (0 to 4) a TWIN, a FACT, each two as likely, are drawn, and it is TOLD; a DAY behind each. -3: n");
        int[] seven = {1, 7, 49, 343, 2401};
        int[] eight = {1, 8, 64, 512, 4096};
        BothKnow x = Due.told("house;fact;fact;fact;fact;doing but 2;doing needs 3 age 1;doing needs 0 age 2;doing needs 0 age 3;comes:0;");
        for (int n = 0; n <= 4; n++) {
            for (int twin = 0; twin < 2; twin++) {
                chance(x, twin, 0, n, seven[n], eight[n]);
                chance(x, twin, 1, n, n == 0 ? 0 : eight[n] - seven[n], n == 0 ? 1 : eight[n]);
                chance(x, twin, 2, n, n == 0 ? 0 : eight[n] - seven[n], n == 0 ? 1 : eight[n]);
                // Old enough, if it was told ahead of the last time.
                chance(x, twin, 3, n, n < 2 ? 0 : eight[n - 1] - seven[n - 1], n < 2 ? 1 : eight[n - 1]);
            }
        }
        for (int n : new int[] {-1, 5, 6}) {
            DUE.same("chance of " + n, x.chance(0, 0, n, 0), -3);
            DUE.same("likeliest of " + n, x.likeliest(0, n), -3);
        }
        for (int wild : WILD) {
            DUE.same("chance of " + wild, x.chance(0, 0, wild, 0), -3);
            DUE.same("likeliest of " + wild, x.likeliest(0, wild), -3);
        }
        DUE.same("nothing is done", x.count(2) + x.count(3) + x.count(6), 0);
    }

    private static void lowestTerms() {
        DUE.says("in lowest terms");
        BothKnow x = Due.told("house;fact;fact;doing needs 0 age 1 but 0;doing;doing needs 0 age 1;doing needs 0 age 1 needs 1 age 1;"
            + "doing needs 0 age 2;doing needs 1 age 3;");
        for (int n = 0; n <= 4; n++) {
            // Half of all tellings are of the other fact.
            chance(x, 1, 0, n, 1, 1 << n);
            chance(x, 1, 1, n, 1, 1);
        }
        // It comes to the other one, too.
        chance(x, 0, 2, 0, 0, 1);
        chance(x, 0, 2, 1, 1, 2);
        chance(x, 0, 2, 2, 3, 4);
        chance(x, 0, 3, 2, 1, 2);
        chance(x, 0, 4, 1, 1, 2);
        // Told to 1 it comes to 0 at 2, and is 3 behind the day: a quarter.
        chance(x, 0, 5, 1, 1, 4);
        BothKnow y = Due.told("house;fact;fact;fact;doing needs 0 age 1;doing but 0 but 1;doing needs 0 age 1 needs 1 age 1 needs 2 age 1;");
        chance(y, 0, 0, 1, 1, 3);
        chance(y, 0, 0, 2, 5, 9);
        chance(y, 0, 1, 2, 1, 9);
        chance(y, 0, 2, 3, 2, 9);
        chance(y, 0, 2, 2, 0, 1);
        chance(y, 0, 2, 4, 4, 9);
    }

    private static void drawsThatCantBeTold() {
        DUE.says("it is TOLD, if it can be; a DAY behind each");
        BothKnow x = Due.told("house;fact;doing needs 0 age 3;doing but 0;may:1=2;knows 1 0 1;");
        chance(x, 0, 1, 4, 1, 1);
        chance(x, 1, 0, 1, 0, 1);
        chance(x, 1, 0, 2, 1, 1);
        BothKnow y = Due.told("house;fact;fact;doing needs 1 age 1;comes:0;may:fact=0 or known=1;");
        // 0 then 1: of sixteen one.
        chance(y, 0, 0, 1, 0, 1);
        chance(y, 0, 0, 2, 1, 16);
    }

    private static void chanceWithoutFacts() {
        DUE.says("(without FACTS: DAYS alone)");
        BothKnow x = Due.told("house;doing;doing;");
        for (int n = 0; n <= 4; n++) {
            chance(x, 0, 0, n, 1, 1);
            chance(x, 1, 1, n, 1, 1);
            DUE.same("likeliest", x.likeliest(0, n), 0);
        }
        DUE.same("n 5", x.chance(0, 0, 5, 0), -3);
    }

    private static void whatOfAChance() {
        DUE.says("what 0: the number above, 1: below. -2: the TWIN, the DOING, what; -3: n");
        BothKnow x = Due.told("house;fact;doing needs 0 age 1;comes:0;");
        for (int what = -2; what <= 4; what++) {
            boolean is = what == 0 || what == 1;
            DUE.same("what " + what, x.chance(0, 0, 1, what), is ? what + 1 : -2);
            DUE.same("what " + what + " and n 5", x.chance(0, 0, 5, what), is ? -3 : -2);
            DUE.same("what " + what + " and n -1", x.chance(0, 0, -1, what), is ? -3 : -2);
        }
        for (int wild : WILD) {
            DUE.same("what " + wild, x.chance(0, 0, 1, wild), -2);
        }
        DUE.same("twin and n", x.chance(2, 0, 5, 0), -2);
        DUE.same("doing and n", x.chance(0, 1, 5, 0), -2);
    }

    private static void likeliestIsTheFirst() {
        DUE.says("The DOING that is likeliest for a TWIN, the first");
        BothKnow x = Due.told("house;fact;doing needs 0 age 3;doing needs 0 age 2;doing needs 0 age 1;doing but 0;doing needs 0 age 1;comes:0;");
        DUE.same("now", x.likeliest(0, 0), 3);
        // One of two is told it: it is 2 behind the day, or isn't known: alike.
        DUE.same("one", x.likeliest(0, 1), 1);
        DUE.same("two", x.likeliest(1, 2), 1);
        x.tell(0, 0);
        DUE.same("it knows it now", x.likeliest(0, 0), 2);
        DUE.same("the other one doesn't", x.likeliest(1, 0), 3);
        DUE.same("and a day", x.likeliest(0, 1), 1);
        DUE.same("and two", x.likeliest(0, 2), 0);
        BothKnow y = Due.told("house;fact;doing needs 0 age 1;doing needs 0 age 1;may:1=2;");
        DUE.same("none is likely: the first", y.likeliest(0, 4), 0);
        DUE.same("the last of six", Due.told("house;fact;doing but 0;doing but 0;doing but 0;doing but 0;doing but 0;doing;").likeliest(0, 1), 5);
    }

    private static void likeliestRefused() {
        DUE.says("NONE: there are no DOINGS; -2; -3");
        BothKnow x = new BothKnow();
        for (int n = 0; n <= 4; n++) {
            DUE.same("no doings", x.likeliest(0, n), -1);
            DUE.same("no doings", x.likeliest(1, n), -1);
        }
        DUE.same("n ahead of NONE", x.likeliest(0, 5), -3);
        DUE.same("n ahead of NONE", x.likeliest(0, -1), -3);
        DUE.same("twin ahead of n", x.likeliest(2, 5), -2);
        DUE.same("twin ahead of NONE", x.likeliest(-1, 0), -2);
        for (int wild : WILD) {
            DUE.same("likeliest(" + wild + ", 0)", x.likeliest(wild, 0), -2);
        }
    }
}
