/** Promises 5 to 16 and the terms' part 2, an edge at a time: ages, laws, doings, deeds, undoing, years. */
public final class DeedEdgesTest {
    private static final Due DUE = new Due();
    private static final int[] WILD = {Integer.MIN_VALUE, Integer.MIN_VALUE + 1, -1000000, -10, -2, -1,
        1000000, 1 << 16, 1 << 30, Integer.MAX_VALUE - 1, Integer.MAX_VALUE};
    private static final String MILLION = "((999+1)*(999+1))";

    public static void main(String[] args) {
        twinsAndFacts();
        whatOfADoing();
        whatOfBringing();
        agesByTelling();
        agesOfTheOtherOne();
        namesInLaws();
        knownAndTheirs();
        keptInAMillion();
        signsOfLaws();
        lawMay();
        aDay();
        daysFrom1To99();
        forgetting();
        doesByAges();
        doesOfSixDoings();
        bondsFrom0To9();
        onlyWhatIsDone();
        eachDeed();
        deedsOfFewFacts();
        deedsCutToTheirSort();
        tenCallsUndone();
        undoneAsAWhole();
        agesUndoneByTen();
        callsThatDidNothing();
        judgedPlaces();
        performedTillOneCant();
        timesOfAYear();
        drawsOfAYear();
        yearsThatDoNothing();
        allCallsOfAnObject();
        DUE.end();
    }

    // ---- what there is

    private static void twinsAndFacts() {
        DUE.says("The AGE of a FACT for a TWIN. -2 (TWIN 0, 1; FACTS from 0 on)");
        for (int facts = 0; facts <= 4; facts++) {
            BothKnow x = Due.told("house;" + "fact;".repeat(facts));
            for (int f = -2; f <= 6; f++) {
                for (int twin = -2; twin <= 3; twin++) {
                    boolean is = f >= 0 && f < facts && twin >= 0 && twin <= 1;
                    DUE.same("age(" + twin + ", " + f + ") of " + facts, x.age(twin, f), is ? 0 : -2);
                    DUE.same("brings(" + twin + ", " + f + ", 0) of " + facts, x.brings(twin, f, 0), is ? twin == 0 ? 1 : 2 : -2);
                }
            }
            for (int wild : WILD) {
                DUE.same("age of a wild twin", x.age(wild, 0), -2);
                DUE.same("age of a wild fact", x.age(0, wild), -2);
                DUE.same("does of a wild twin", x.does(wild), -2);
            }
            DUE.same("does(-1)", x.does(-1), -2);
            DUE.same("does(2)", x.does(2), -2);
        }
    }

    private static void whatOfADoing() {
        DUE.says("Of a DOING, what 0, 1, 2, 10 + f. -2");
        for (int facts = 0; facts <= 4; facts++) {
            BothKnow x = Due.told("house;" + "fact;".repeat(facts) + "doing;doing;");
            for (int what = -2; what <= 20; what++) {
                boolean is = what >= 0 && what <= 2 || what >= 10 && what < 10 + facts;
                DUE.same("doing(1, " + what + ") of " + facts, x.doing(1, what), is ? what == 2 ? 3 : 0 : -2);
                DUE.same("doing(2, " + what + ")", x.doing(2, what), -2);
                DUE.same("doing(-1, " + what + ")", x.doing(-1, what), -2);
            }
            for (int wild : WILD) {
                DUE.same("doing(" + wild + ")", x.doing(wild, 0), -2);
                DUE.same("doing(0, " + wild + ")", x.doing(0, wild), -2);
            }
        }
        BothKnow x = Due.told("house;fact;fact;fact;fact;doing needs 0 age 1 needs 1 age 2 needs 2 age 3;"
            + "doing but 0 but 1 but 2 but 3;doing needs 3 age 3;knows 0 3 3;");
        int[] ages = {1, 2, 3, 0};
        for (int f = 0; f < 4; f++) {
            DUE.same("the AGE it needs of " + f, x.doing(0, 10 + f), ages[f]);
            DUE.same("it must not know " + f, x.doing(1, 10 + f), 0);
        }
        DUE.same("needs, as bits", x.doing(0, 0), 7);
        DUE.same("needs of the last FACT", x.doing(2, 0), 8);
        DUE.same("must not know, as bits", x.doing(1, 1), 15);
        DUE.same("nobody", x.doing(0, 2), 0);
        DUE.same("TWIN 1", x.doing(1, 2), 2);
        DUE.same("TWIN 0", x.doing(2, 2), 1);
    }

    private static void whatOfBringing() {
        DUE.says("By TELLING a TWIN a FACT, what 0, 1: its AGE for TWIN 0, 1 then. -2; -5");
        BothKnow x = Due.told("house;fact;fact;may:fact=0;");
        for (int what = -3; what <= 4; what++) {
            boolean is = what == 0 || what == 1;
            DUE.same("brings(0, 0, " + what + ")", x.brings(0, 0, what), is ? what + 1 : -2);
            DUE.same("brings(1, 0, " + what + ")", x.brings(1, 0, what), is ? 2 - what : -2);
            DUE.same("brings(0, 1, " + what + "): the law may", x.brings(0, 1, what), is ? -5 : -2);
        }
        for (int wild : WILD) {
            DUE.same("brings of a wild twin", x.brings(wild, 0, 0), -2);
            DUE.same("brings of a wild fact", x.brings(0, wild, 0), -2);
            DUE.same("brings of a wild what", x.brings(0, 0, wild), -2);
        }
        DUE.same("nothing was told", x.count(2) + x.count(3) + x.count(6), 0);
    }

    // ---- telling

    private static void agesByTelling() {
        DUE.says("its AGE for that one is 1, if it was 0, else as it was");
        for (int twin = 0; twin < 2; twin++) {
            for (int fact = 0; fact < 4; fact++) {
                for (int age = 0; age <= 3; age++) {
                    BothKnow x = Due.told("house;fact;fact;fact;fact;comes:0;knows " + twin + " " + fact + " " + age + ";");
                    int then = Math.max(1, age);
                    DUE.same("brings from " + age, x.brings(twin, fact, twin), then);
                    DUE.same("nothing comes to the other one", x.tell(twin, fact), 0);
                    for (int f = 0; f < 4; f++) {
                        DUE.same("age behind it", x.age(twin, f), f == fact ? then : 0);
                        DUE.same("the other one's", x.age(1 - twin, f), 0);
                    }
                }
            }
        }
    }

    private static void agesOfTheOtherOne() {
        DUE.says("for the other one it is the greater one of what it was and what the law comes tells, 0 at least, 3 at most (without one: 2)");
        String[] laws = {"0-" + MILLION, "0-1", "0", "1", "2", "3", "4", "999", MILLION};
        int[] tells = {0, 0, 0, 1, 2, 3, 3, 3, 3};
        for (int twin = 0; twin < 2; twin++) {
            for (int fact = 0; fact < 4; fact++) {
                for (int age = 0; age <= 3; age++) {
                    String text = "house;fact;fact;fact;fact;knows " + (1 - twin) + " " + fact + " " + age + ";";
                    for (int k = 0; k < laws.length; k++) {
                        BothKnow x = Due.told(text + "comes:" + laws[k] + ";");
                        int then = Math.max(age, tells[k]);
                        DUE.same("brings " + laws[k] + " to " + age, x.brings(twin, fact, 1 - twin), then);
                        DUE.same("tell " + laws[k] + " to " + age, x.tell(twin, fact), then);
                        DUE.same("age behind it", x.age(1 - twin, fact), then);
                        DUE.same("for that one", x.age(twin, fact), 1);
                    }
                    DUE.same("without a law to " + age, Due.told(text).tell(twin, fact), Math.max(age, 2));
                }
            }
        }
    }

    private static boolean comes(String setting, String truth, int twin, int fact) {
        BothKnow x = Due.told("house;fact kind 3;fact kind 9;fact;fact kind 7;" + setting + "comes:if " + truth + " then 3 else 0 end;");
        return x.brings(twin, fact, 1 - twin) == 3;
    }

    private static void namesInLaws() {
        DUE.says("twin: the one that is told, fact, kind: of the FACT; bond: the BOND");
        int[] kinds = {3, 9, 0, 7};
        for (int twin = 0; twin < 2; twin++) {
            for (int fact = 0; fact < 4; fact++) {
                for (int n = 0; n <= 9; n++) {
                    DUE.holds("twin=" + n, comes("", "twin=" + n, twin, fact) == (n == twin));
                    DUE.holds("fact=" + n, comes("", "fact=" + n, twin, fact) == (n == fact));
                    DUE.holds("kind=" + n, comes("", "kind=" + n, twin, fact) == (n == kinds[fact]));
                    DUE.holds("bond=" + n, comes("bond " + n + ";", "bond=" + n, twin, fact));
                    DUE.holds("not bond=" + n, comes("bond " + (n + 1) % 10 + ";", "not bond=" + n, twin, fact));
                }
            }
        }
    }

    private static void knownAndTheirs() {
        DUE.says("known: how many FACTS it knows, theirs: how many the other one knows, all ahead");
        for (int twin = 0; twin < 2; twin++) {
            for (int known = 0; known <= 4; known++) {
                for (int theirs = 0; theirs <= 4; theirs++) {
                    StringBuilder setting = new StringBuilder();
                    for (int f = 0; f < known; f++) {
                        setting.append("knows " + twin + " " + f + " " + (1 + f % 3) + ";");
                    }
                    for (int f = 0; f < theirs; f++) {
                        // From the last FACT down, and never so old that nothing could come to it.
                        setting.append("knows " + (1 - twin) + " " + (3 - f) + " " + (1 + f % 2) + ";");
                    }
                    for (int fact = 0; fact < 4; fact++) {
                        for (int n = 0; n <= 5; n++) {
                            DUE.holds("known " + known + " is " + n, comes(setting + "", "known=" + n, twin, fact) == (n == known));
                            DUE.holds("theirs " + theirs + " is " + n, comes(setting + "", "theirs=" + n, twin, fact) == (n == theirs));
                        }
                    }
                }
            }
        }
    }

    private static void like(String left, String right) {
        DUE.holds(left + " = " + right, comes("", left + "=" + right, 0, 0));
        DUE.holds("not " + left + " < " + right, !comes("", left + "<" + right, 0, 0));
        DUE.holds("not " + left + " > " + right, !comes("", left + ">" + right, 0, 0));
    }

    private static void below(String left, String right) {
        DUE.holds(left + " < " + right, comes("", left + "<" + right, 0, 0));
        DUE.holds(right + " > " + left, comes("", right + ">" + left, 0, 0));
        DUE.holds("not " + left + " = " + right, !comes("", left + "=" + right, 0, 0));
    }

    private static void keptInAMillion() {
        DUE.says("each + - * is kept from -1,000,000 to 1,000,000");
        String m = MILLION;
        like("999*999+999+999+1", m);
        below("999*999+999+999", m);
        like(m + "+0", m);
        like(m + "+1", m);
        like(m + "+" + m, m);
        like(m + "-1+1", m);
        like(m + "-1+2", m);
        below(m + "-1", m);
        like(m + "+1-1", m + "-1");
        like("0-" + m + "-1", "0-" + m);
        like("0-" + m + "-" + m, "0-" + m);
        below("0-" + m, "1-" + m);
        like("0-" + m + "-1+1", "1-" + m);
        like(m + "*1", m);
        like(m + "*2", m);
        like("999*999*2", m);
        like("999*999*999*999*999*999*999*999*999", m);
        like(m + "*2-" + m, "0");
        // A million times a million is more than an int holds, and wraps around to less than nothing.
        like(m + "*" + m, m);
        like(m + "*" + m + "*" + m + "*" + m, m);
        like("(0-" + m + ")*" + m, "0-" + m);
        like("(0-" + m + ")*(0-" + m + ")", m);
        like("(0-" + m + ")*2", "0-" + m);
        like("(0-1)*" + m, "0-" + m);
        below("(0-1)*999*999", "0");
        // What is kept at each step isn't what is kept at the end.
        like(m + "+999-999", m + "-999");
        like("(" + m + "+999)-999", m + "-999");
        like(m + "+(999-999)", m);
        like("(0-" + m + ")-999+999", "999-" + m);
    }

    private static void signsOfLaws() {
        DUE.says("SUM, TERM, TRUTH, BOTH, UNIT: * ahead of + -, and ahead of or, not of one UNIT; one of = < >");
        like("2+3*4", "14");
        like("2*3+4", "10");
        like("(2+3)*4", "20");
        like("9-3-2", "4");
        like("9-(3-2)", "8");
        like("9-3+2", "8");
        like("2*3*4-5*4", "4");
        below("1", "2");
        String[] both = {"1=2", "1=1"};
        for (int a = 0; a < 2; a++) {
            for (int b = 0; b < 2; b++) {
                DUE.holds("and", comes("", both[a] + " and " + both[b], 0, 0) == (a + b == 2));
                DUE.holds("or", comes("", both[a] + " or " + both[b], 0, 0) == (a + b > 0));
                DUE.holds("not of the first", comes("", "not " + both[a] + " and " + both[b], 0, 0) == (a == 0 && b == 1));
                for (int c = 0; c < 2; c++) {
                    String plain = both[a] + " or " + both[b] + " and " + both[c];
                    DUE.holds(plain, comes("", plain, 0, 0) == (a == 1 || b == 1 && c == 1));
                    String other = both[a] + " and " + both[b] + " or " + both[c];
                    DUE.holds(other, comes("", other, 0, 0) == (a == 1 && b == 1 || c == 1));
                    String within = "[" + both[a] + " or " + both[b] + "] and " + both[c];
                    DUE.holds(within, comes("", within, 0, 0) == ((a == 1 || b == 1) && c == 1));
                    String chosen = "if " + both[a] + " then " + (5 + b) + " else " + (7 + c) + " end=";
                    DUE.holds(chosen, comes("", chosen + (a == 1 ? 5 + b : 7 + c), 0, 0));
                }
            }
        }
        DUE.holds("1 < 1", !comes("", "1<1", 0, 0));
        DUE.holds("1 > 1", !comes("", "1>1", 0, 0));
        DUE.holds("not not", comes("", "not not 1=1", 0, 0));
    }

    private static void lawMay() {
        DUE.says("To TELL a TWIN a FACT, if the law may holds (without one: always); -11, -13");
        String[] laws = {"1=1", "1=2", "twin=0", "fact=3", "kind=9", "known=1", "theirs=2", "known>0 and theirs<3"};
        for (int k = 0; k < laws.length; k++) {
            BothKnow x = Due.told("house;fact;fact;fact;fact kind 9;comes:0;knows 0 0 1;knows 1 1 1;knows 1 2 1;may:" + laws[k] + ";");
            for (int twin = 0; twin < 2; twin++) {
                for (int fact = 0; fact < 4; fact++) {
                    int known = twin == 0 ? 1 : 2;
                    int theirs = 3 - known;
                    boolean[] may = {true, false, twin == 0, fact == 3, fact == 3, known == 1, theirs == 2, true};
                    DUE.same("brings by " + laws[k], x.brings(twin, fact, twin), may[k] ? 1 : -5);
                    int ages = x.age(1 - twin, fact);
                    DUE.same("tell by " + laws[k], x.tell(twin, fact), may[k] ? ages : -13);
                    DUE.same("calls that did some", x.count(6), may[k] ? 1 : 0);
                    if (may[k]) {
                        x.undo(1);
                    }
                }
            }
        }
        BothKnow x = Due.told("house;fact;may:1=2;");
        for (int wild : WILD) {
            DUE.same("tell of a wild twin", x.tell(wild, 0), -11);
            DUE.same("tell of a wild fact", x.tell(0, wild), -11);
        }
        DUE.same("tell(2, 0)", x.tell(2, 0), -11);
        DUE.same("tell(0, 1)", x.tell(0, 1), -11);
        DUE.same("tell(0, 0)", x.tell(0, 0), -13);
        DUE.same("tell(1, 0)", x.tell(1, 0), -13);
        BothKnow y = Due.told("house;fact;");
        DUE.same("without a law, again and again", y.tell(0, 0) + y.tell(0, 0) + y.tell(1, 0), 6);
    }

    // ---- days, forgetting, doings, bonds

    private static final String ALL_AGES = "house;fact;fact;fact;fact;knows 0 1 1;knows 0 2 2;knows 0 3 3;knows 1 0 3;knows 1 1 2;knows 1 2 1;";

    private static void aDay() {
        DUE.says("A DAY: each AGE from 1 to 2 is 1 more");
        int[][] then = {{0, 2, 3, 3, 3, 3, 2, 0}, {0, 3, 3, 3, 3, 3, 3, 0}, {0, 3, 3, 3, 3, 3, 3, 0}};
        for (int way = 0; way < 2; way++) {
            BothKnow x = Due.told(ALL_AGES);
            Due.tray(x, 0, -1);
            for (int day = 0; day < 3; day++) {
                DUE.same("a day", way == 0 ? x.days(1) : x.perform(0), way == 0 ? 0 : 1);
                for (int k = 0; k < 8; k++) {
                    DUE.same("age behind day " + (day + 1), x.age(k / 4, k % 4), then[day][k]);
                }
            }
        }
    }

    private static void daysFrom1To99() {
        DUE.says("n DAYS (1 to 99): how many DOINGS both DO then, each counted. -3");
        String text = ALL_AGES + "doing needs 1 age 3;doing needs 2 age 3;doing but 0;doing but 3;";
        // For twin 0 the ages 0 1 2 3, for twin 1 3 2 1 0, are 0 2 3 3 and 3 3 2 0 then, and 0 3 3 3 and 3 3 3 0.
        for (int n = 1; n <= 99; n++) {
            if (n < 5 || n > 96) {
                BothKnow x = Due.told(text);
                DUE.same("days(" + n + ")", x.days(n), n == 1 ? 4 : 6);
                DUE.same("count(5)", x.count(5), n == 1 ? 4 : 6);
                DUE.same("one call", x.count(6), 1);
                DUE.same("undone as a whole", x.undo(1), 0);
                DUE.same("age(0, 1)", x.age(0, 1), 1);
            }
        }
        BothKnow x = Due.told(text);
        for (int n : new int[] {0, 100, 101, 1 << 16 | 1}) {
            DUE.same("days(" + n + ")", x.days(n), -3);
        }
        for (int n : WILD) {
            DUE.same("days(" + n + ")", x.days(n), -3);
        }
        DUE.same("no day went by", x.age(0, 1) + x.count(6), 1);
        DUE.same("six doings by both", Due.told("house;doing;doing;doing;doing;doing;doing;").days(1), 12);
        DUE.same("no doings", new BothKnow().days(99), 0);
    }

    private static void forgetting() {
        DUE.says("To FORGET: an AGE for a TWIN is 0: the AGE it had. -11, -12");
        for (int twin = 0; twin < 2; twin++) {
            for (int fact = 0; fact < 4; fact++) {
                for (int age = 0; age <= 3; age++) {
                    StringBuilder text = new StringBuilder("house;fact;fact;fact;fact;");
                    for (int k = 0; k < 8; k++) {
                        text.append("knows " + k / 4 + " " + k % 4 + " " + (k == 4 * twin + fact ? age : 1 + k % 3) + ";");
                    }
                    for (int way = 0; way < 2; way++) {
                        BothKnow x = Due.told(text.toString());
                        Due.tray(x, 0, 100 + 10 * twin + fact);
                        if (way == 0) {
                            DUE.same("forget from " + age, x.forget(twin, fact), age == 0 ? -12 : age);
                        } else {
                            DUE.same("forget by a tray", x.perform(0), age == 0 ? 0 : 1);
                        }
                        for (int k = 0; k < 8; k++) {
                            DUE.same("age behind it", x.age(k / 4, k % 4), k == 4 * twin + fact ? 0 : 1 + k % 3);
                        }
                        DUE.same("calls that did some", x.count(6), age == 0 ? 0 : 1);
                    }
                }
            }
        }
        BothKnow x = Due.told("house;fact;");
        DUE.same("forget(2, 0)", x.forget(2, 0), -11);
        DUE.same("forget(0, 1)", x.forget(0, 1), -11);
        for (int wild : WILD) {
            DUE.same("forget of a wild twin", x.forget(wild, 0), -11);
            DUE.same("forget of a wild fact", x.forget(0, wild), -11);
        }
        DUE.same("nobody knows it", x.forget(1, 0), -12);
    }

    private static void doesByAges() {
        DUE.says("A TWIN DOES a DOING, if all FACTS it needs have the AGE told at least for that one, and none it must not know is known");
        for (int twin = 0; twin < 2; twin++) {
            for (int fact = 0; fact < 4; fact++) {
                for (int age = 0; age <= 3; age++) {
                    String knows = "knows " + twin + " " + fact + " " + age + ";";
                    for (int need = 1; need <= 3; need++) {
                        BothKnow x = Due.told("house;fact;fact;fact;fact;doing needs " + fact + " age " + need + ";" + knows);
                        DUE.same("needs " + need + " at " + age, x.does(twin), age >= need ? 1 : 0);
                        DUE.same("the other one", x.does(1 - twin), 0);
                        DUE.same("TWINS who do it", x.doing(0, 2), age >= need ? 1 << twin : 0);
                    }
                    BothKnow x = Due.told("house;fact;fact;fact;fact;doing but " + fact + ";" + knows);
                    DUE.same("but at " + age, x.does(twin), age == 0 ? 1 : 0);
                    DUE.same("the other one", x.does(1 - twin), 1);
                }
            }
        }
        for (int ages = 0; ages < 64; ages++) {
            int a = ages & 3;
            int b = ages >> 2 & 3;
            int c = ages >> 4;
            BothKnow x = Due.told("house;fact;fact;fact;doing needs 0 age 2 needs 1 age 1 but 2;knows 1 0 " + a + ";knows 1 1 " + b
                + ";knows 1 2 " + c + ";");
            DUE.same("all of them, at " + a + b + c, x.does(1), a >= 2 && b >= 1 && c == 0 ? 1 : 0);
        }
        DUE.same("one that needs nothing", Due.told("house;doing;").does(0), 1);
    }

    private static void doesOfSixDoings() {
        DUE.says("DOINGS a TWIN DOES, as bits. -2");
        BothKnow x = Due.told("house;fact;doing but 0;doing needs 0 age 1;doing needs 0 age 2;doing needs 0 age 3;doing;doing but 0;knows 1 0 2;");
        DUE.same("does(0)", x.does(0), 1 + 16 + 32);
        DUE.same("does(1)", x.does(1), 2 + 4 + 16);
        DUE.same("both, each counted", x.count(5), 6);
        for (int d = 0; d < 6; d++) {
            DUE.same("TWINS of " + d, x.doing(d, 2), (49 >> d & 1) | (22 >> d & 1) << 1);
        }
    }

    private static void bondsFrom0To9() {
        DUE.says("To have a BOND (0 to 9): what it was. -11");
        BothKnow x = Due.told("house;fact;comes:bond-6;bond 5;");
        int was = 5;
        for (int n = 0; n <= 9; n++) {
            DUE.same("bond(" + n + ")", x.bond(n), was);
            DUE.same("count(4)", x.count(4), n);
            DUE.same("what comes by it", x.brings(0, 0, 1), Math.max(0, n - 6));
            was = n;
        }
        DUE.same("bond(10)", x.bond(10), -11);
        for (int wild : WILD) {
            DUE.same("bond(" + wild + ")", x.bond(wild), -11);
        }
        DUE.same("it stays", x.count(4), 9);
        DUE.same("ten calls, no more", x.count(6), 10);
    }

    private static void onlyWhatIsDone() {
        DUE.says("judged as if done; a call changes what it tells, and nothing else");
        // The first seed by which a year of one time changes the bond.
        int seed = 0;
        for (draw = 0; nextDeed() < 200; draw = seed) {
            seed++;
        }
        for (int way = 0; way < 6; way++) {
            BothKnow x = Due.told(ALL_AGES + "comes:0;");
            int ages = agesOf(x);
            Due.tray(x, 0, 0, 10, -1, -1, 203);
            Due.tray(x, 1, 0, 10, -1, -1);
            x.judge(0, 2);
            x.bonds(1, 0, 0);
            switch (way) {
                case 0 -> x.bond(5);
                case 1 -> x.tell(0, 3);
                case 2 -> x.perform(2);
                case 3 -> x.forget(0, 0);
                case 4 -> x.year(seed, 1);
                default -> x.undo(1);
            }
            DUE.same("ages behind " + way, agesOf(x), ages);
            draw = seed;
            DUE.same("bond behind " + way, x.count(4), way == 0 ? 5 : way == 4 ? nextDeed() - 200 : 0);
        }
    }

    // ---- deeds in a tray

    private static final String DEED_HOUSE = "house;fact;fact;fact;fact;knows 0 0 1;knows 0 1 2;knows 1 2 3;knows 1 3 1;may:fact<3;";

    /** Why not, by the document's own table, in the house above. */
    private static int whyNot(long v) {
        if (v == -1 || v >= 200 && v <= 209) {
            return 0;
        }
        boolean told = v >= 0 && v <= 19;
        boolean forgotten = v >= 100 && v <= 119;
        if (!told && !forgotten || v % 10 > 3) {
            return 1;
        }
        if (told) {
            return v % 10 < 3 ? 0 : 3;
        }
        return v == 100 || v == 101 || v == 112 || v == 113 ? 0 : 2;
    }

    private static void eachDeed() {
        DUE.says("DEEDS in a TRAY: 0 to 19; 100 to 119; 200 to 209; NONE: a DAY; others: 1");
        for (long v = -300; v <= 300; v++) {
            BothKnow x = Due.told(DEED_HOUSE);
            Due.tray(x, 2, v);
            int why = whyNot(v);
            DUE.same("why not " + v, x.judge(2, 1), why);
            DUE.same("the place of " + v, x.judge(2, 0), why == 0 ? -1 : 0);
            DUE.same("done of " + v, x.perform(2), why == 0 ? 1 : 0);
            if (v >= 0 && v <= 19 && why == 0) {
                DUE.holds("told " + v, x.age((int) v / 10, (int) v % 10) > 0 && x.age(1 - (int) v / 10, (int) v % 10) >= 2);
            } else if (v >= 200 && why == 0) {
                DUE.same("bond of " + v, x.count(4), v - 200);
            } else if (v == -1) {
                DUE.same("a day", x.age(0, 1), 3);
            } else if (why == 0) {
                DUE.same("forgotten " + v, x.age((int) (v - 100) / 10, (int) v % 10), 0);
            }
            // Numbers that would be these deeds if they were cut to 8, 16, 32 bits.
            for (int bits : new int[] {8, 16, 32, 63}) {
                long far = v + (1L << bits);
                Due.tray(x, 2, far);
                DUE.same("why not " + far, x.judge(2, 1), whyNot(far));
                far = v - (1L << bits);
                Due.tray(x, 2, far);
                DUE.same("why not " + far, x.judge(2, 1), whyNot(far));
            }
        }
    }

    private static void deedsOfFewFacts() {
        DUE.says("Why not: 1 no such TWIN, FACT, BOND");
        for (int facts = 0; facts <= 3; facts++) {
            BothKnow x = Due.told("house;" + "fact;".repeat(facts));
            for (int v = 0; v < 20; v++) {
                Due.tray(x, 0, v);
                DUE.same("telling " + v + " of " + facts, x.judge(0, 1), v % 10 < facts ? 0 : 1);
                Due.tray(x, 0, 100 + v);
                DUE.same("forgetting " + v + " of " + facts, x.judge(0, 1), v % 10 < facts ? 2 : 1);
                DUE.same("tell " + v, x.tell(v / 10, v % 10) < 0 ? 1 : 0, v % 10 < facts ? 0 : 1);
                x.undo(1);
            }
            Due.tray(x, 0, -1);
            DUE.same("a day", x.judge(0, 1), 0);
            Due.tray(x, 0, 209);
            DUE.same("a bond", x.judge(0, 1), 0);
        }
    }

    private static void deedsCutToTheirSort() {
        DUE.says("numbers of 8 bits (sort 0), 16 (1), 32 (2), 64 (3): DEEDS as they are there");
        for (int sort = 0; sort <= 3; sort++) {
            BothKnow x = Due.told("house;fact;bond 7;knows 0 0 1;");
            x.numbers(0, sort, 1);
            long all = sort == 3 ? -1L : (1L << (8 << sort)) - 1;
            DUE.same("all bits are a DAY", x.write(0, 0, all), -1);
            DUE.same("why", x.judge(0, 1), 0);
            DUE.same("done", x.perform(0), 1);
            DUE.same("a day went by", x.age(0, 0), 2);
            long bond = x.write(0, 0, 203);
            DUE.same("203", bond, sort == 0 ? 203 - 256 : 203);
            DUE.same("a BOND, or none such", x.judge(0, 1), sort == 0 ? 1 : 0);
            DUE.same("100", x.write(0, 0, 100), 100);
            DUE.same("forgotten", x.judge(0, 1), 0);
            DUE.same("what is cut off", x.write(0, 0, sort == 3 ? 10 : (1L << (8 << sort)) + 10), 10);
            DUE.same("told", x.judge(0, 1), 0);
        }
    }

    // ---- undoing

    private static void tenCallsUndone() {
        DUE.says("Calls that did some can be UNDONE, the latest first, 10 at most (eldest are forgotten); n calls (1 to 10): how many still can be. -3");
        for (int calls = 0; calls <= 13; calls++) {
            int can = Math.min(10, calls);
            for (int n = -1; n <= 14; n++) {
                BothKnow x = new BothKnow();
                for (int k = 1; k <= calls; k++) {
                    x.bond(k % 10);
                }
                DUE.same("can be undone", x.count(6), can);
                boolean fine = n >= 1 && n <= can;
                DUE.same("undo(" + n + ") of " + calls, x.undo(n), fine ? can - n : -3);
                DUE.same("count(6)", x.count(6), fine ? can - n : can);
                DUE.same("bond", x.count(4), (fine ? calls - n : calls) % 10);
            }
        }
        BothKnow x = new BothKnow();
        x.bond(1);
        for (int wild : WILD) {
            DUE.same("undo(" + wild + ")", x.undo(wild), -3);
        }
        for (int k = 0; k < 40; k++) {
            x.bond(k % 10);
        }
        for (int left = 9; left >= 0; left--) {
            DUE.same("one at a time", x.undo(1), left);
            DUE.same("bond", x.count(4), (29 + left) % 10);
        }
        DUE.same("no more", x.undo(1), -3);
        DUE.same("bond", x.count(4), 9);
        x.bond(3);
        DUE.same("one anew", x.count(6), 1);
    }

    private static void undoneAsAWhole() {
        DUE.says("UNDONE each as a whole: AGES, BOND");
        BothKnow x = Due.told(ALL_AGES + "bond 4;comes:bond-3;");
        Due.tray(x, 0, 0, 209, 13, -1, 101, 112, -1, 200);
        DUE.same("eight deeds", x.perform(0), 8);
        DUE.holds("a year", x.year(5, 40) > 1);
        int bond = x.count(4);
        x.days(99);
        x.tell(1, 2);
        x.forget(1, 2);
        x.bond((bond + 1) % 10);
        DUE.same("six calls", x.count(6), 6);
        DUE.same("the bond", x.undo(1), 5);
        DUE.same("count(4)", x.count(4), bond);
        DUE.same("age(1, 2)", x.age(1, 2), 0);
        DUE.same("the forgetting", x.undo(1), 4);
        DUE.holds("age(1, 2) is back", x.age(1, 2) > 0);
        DUE.same("the telling, the days, the year", x.undo(3), 1);
        int[] then = {3, 0, 3, 3, 3, 3, 0, 3};
        for (int k = 0; k < 8; k++) {
            DUE.same("behind the tray, age(" + k / 4 + ", " + k % 4 + ")", x.age(k / 4, k % 4), then[k]);
        }
        DUE.same("bond behind the tray", x.count(4), 0);
        DUE.same("the tray", x.undo(1), 0);
        int[] ages = {0, 1, 2, 3, 3, 2, 1, 0};
        for (int k = 0; k < 8; k++) {
            DUE.same("age(" + k / 4 + ", " + k % 4 + ")", x.age(k / 4, k % 4), ages[k]);
        }
        DUE.same("bond", x.count(4), 4);
    }

    private static void agesUndoneByTen() {
        DUE.says("10 at most (eldest are forgotten): AGES, BOND");
        BothKnow x = Due.told("house;fact;fact;fact;fact;comes:0;");
        int[] ages = new int[20];
        int[] bonds = new int[20];
        for (int k = 0; k < 15; k++) {
            ages[k] = agesOf(x);
            bonds[k] = x.count(4);
            if (k % 5 == 4) {
                x.bond(k % 10);
            } else if (k % 5 == 3) {
                x.days(1);
            } else {
                x.tell(k % 2, k / 4);
            }
        }
        for (int k = 14; k >= 5; k--) {
            DUE.same("undo", x.undo(1), k - 5);
            DUE.same("ages behind " + k, agesOf(x), ages[k]);
            DUE.same("bond behind " + k, x.count(4), bonds[k]);
        }
        DUE.same("no more", x.undo(1), -3);
    }

    private static int agesOf(BothKnow x) {
        int all = 0;
        for (int k = 0; k < 8; k++) {
            all = 4 * all + x.age(k / 4, k % 4);
        }
        return all;
    }

    private static void callsThatDidNothing() {
        DUE.says("Calls that did some can be UNDONE");
        BothKnow x = Due.told("house;fact;doing;may:twin=0;");
        x.tell(1, 0);
        x.tell(2, 0);
        x.days(0);
        x.days(100);
        x.forget(0, 0);
        x.bond(10);
        x.undo(1);
        x.perform(0);
        Due.tray(x, 0);
        DUE.same("no deeds", x.perform(0), 0);
        Due.tray(x, 0, 10, 0, 0);
        DUE.same("the first can't be", x.perform(0), 0);
        x.year(1, 0);
        x.year(1, 41);
        DUE.same("none did some", x.count(6), 0);
        x.tell(0, 0);
        DUE.same("a telling did", x.count(6), 1);
        Due.tray(x, 0, -1, 10);
        DUE.same("one of two", x.perform(0), 1);
        DUE.same("did some", x.count(6), 2);
    }

    // ---- trays of deeds, years

    private static void judgedPlaces() {
        DUE.says("what 0: the first place that can't be (NONE), 1: why (0), 2, 3: DOINGS TWIN 0, 1 DOES then. -2: the TRAY, what; -6");
        for (int place = 0; place <= 40; place++) {
            BothKnow x = Due.told("house;fact;fact;doing needs 0 age 1;doing needs 1 age 1;comes:0;may:not fact=1 or twin=1;");
            x.numbers(1, 1, 40);
            for (int k = 0; k < 40; k++) {
                x.write(1, k, k == place ? 1 : k == place + 1 ? 77 : k % 2 == 0 ? 0 : 11);
            }
            boolean all = place == 40;
            DUE.same("place", x.judge(1, 0), all ? -1 : place);
            DUE.same("why", x.judge(1, 1), all ? 0 : 3);
            DUE.same("TWIN 0 then", x.judge(1, 2), place > 0 ? 1 : 0);
            DUE.same("TWIN 1 then", x.judge(1, 3), place > 1 ? 2 : 0);
            DUE.same("nothing is done", x.count(2) + x.count(3) + x.count(6), 0);
            DUE.same("perform", x.perform(1), place);
            DUE.same("TWIN 0 DOES", x.does(0), place > 0 ? 1 : 0);
            DUE.same("TWIN 1 DOES", x.does(1), place > 1 ? 2 : 0);
            DUE.same("one call at most", x.count(6), place > 0 ? 1 : 0);
        }
        BothKnow x = Due.told("house;fact;doing;");
        x.numbers(3, 0, 0);
        Due.tray(x, 1, 77);
        DUE.same("one that can't be", x.judge(1, 1), 1);
        DUE.same("none behind it", x.judge(3, 1), 0);
        DUE.same("one that can't be", x.judge(1, 0), 0);
        DUE.same("none behind it", x.judge(3, 0), -1);
        int[] empty = {-1, 0, 1, 1};
        for (int what = -2; what <= 6; what++) {
            boolean is = what >= 0 && what <= 3;
            DUE.same("judge(3, " + what + ") of none", x.judge(3, what), is ? empty[what] : -2);
            DUE.same("judge(2, " + what + ") missing", x.judge(2, what), is ? -6 : -2);
            DUE.same("judge(4, " + what + ")", x.judge(4, what), -2);
            DUE.same("judge(-1, " + what + ")", x.judge(-1, what), -2);
        }
        for (int wild : WILD) {
            DUE.same("judge(" + wild + ", 0)", x.judge(wild, 0), -2);
            DUE.same("judge(3, " + wild + ")", x.judge(3, wild), -2);
            DUE.same("perform(" + wild + ")", x.perform(wild), -2);
        }
    }

    private static void performedTillOneCant() {
        DUE.says("They are done, till one can't be: how many. -2; -6");
        BothKnow x = Due.told("house;fact;fact;comes:bond;");
        DUE.same("perform(-1)", x.perform(-1), -2);
        DUE.same("perform(4)", x.perform(4), -2);
        for (int tray = 0; tray < 4; tray++) {
            DUE.same("missing", x.perform(tray), -6);
            x.numbers(tray, 3, 1);
            DUE.same("a telling of 0", x.perform(tray), 1);
        }
        x.numbers(0, 2, 40);
        DUE.same("forty tellings of 0", x.perform(0), 40);
        x.write(0, 39, 2);
        DUE.same("the last can't be", x.perform(0), 39);
        x.write(0, 0, 101);
        DUE.same("the first can't be", x.perform(0), 0);
        x.numbers(0, 2, 3);
        x.write(0, 0, 205);
        x.write(0, 1, 1);
        x.write(0, 2, -2);
        DUE.same("each sees what is ahead of it", x.perform(0), 2);
        DUE.same("the bond came ahead", x.age(1, 1), 3);
    }

    private static int draw;

    private static int nextDraw() {
        draw = 1103515245 * draw + 12345;
        return draw >>> 16;
    }

    /** The year's next deed, as in a tray. */
    private static long nextDeed() {
        int sort = nextDraw() % 6;
        if (sort == 4) {
            return -1;
        }
        if (sort == 5) {
            return 200 + nextDraw() % 10;
        }
        int twin = nextDraw() % 2;
        return 10 * twin + nextDraw() % 4 + (sort == 3 ? 100 : 0);
    }

    private static void timesOfAYear() {
        DUE.says("so many times (1 to 40): how many could be. -3: how many times");
        BothKnow x = Due.told("house;fact;fact;");
        for (int times : new int[] {0, 41, 42}) {
            DUE.same("year(1, " + times + ")", x.year(1, times), -3);
        }
        for (int wild : WILD) {
            DUE.same("year(1, " + wild + ")", x.year(1, wild), -3);
        }
        DUE.same("nothing was done", x.count(2) + x.count(3) + x.count(4) + x.count(6), 0);
        for (int times = 1; times <= 40; times++) {
            sameYear("house;fact;fact;fact;fact;comes:bond-5;", 77 * times, times);
        }
    }

    private static void drawsOfAYear() {
        DUE.says("a DRAW: x becomes 1103515245 x + 12345, it is x >>> 16; as in a TRAY, if it can be");
        int[] seeds = {0, 1, -1, 12345, -12345, 65535, 65536, Integer.MIN_VALUE, Integer.MAX_VALUE, 1 << 30, -(1 << 30), 1103515245};
        String[] texts = {"house;", "house;fact;doing but 0;", "house;fact;fact;fact;fact;may:theirs<2;comes:known-1;"};
        for (int seed : seeds) {
            for (String text : texts) {
                sameYear(text, seed, 1);
                sameYear(text, seed, 40);
            }
        }
    }

    private static void sameYear(String text, int seed, int times) {
        BothKnow x = Due.told(text);
        BothKnow y = Due.told(text);
        draw = seed;
        int done = 0;
        for (int k = 0; k < times; k++) {
            Due.tray(y, 0, nextDeed());
            done += y.perform(0);
        }
        String name = "year(" + seed + ", " + times + ") of " + text;
        DUE.same(name, x.year(seed, times), done);
        DUE.same("can be undone behind " + name, x.count(6), done > 0 ? 1 : 0);
        for (int k = 0; k < 8; k++) {
            DUE.same("age behind " + name, x.age(k / 4, k % 4), y.age(k / 4, k % 4));
        }
        DUE.same("bond behind " + name, x.count(4), y.count(4));
    }

    private static void allCallsOfAnObject() {
        DUE.says("An object is used for at most 512 calls after it has been made");
        String text = "house;fact;fact;fact;fact;doing needs 3 age 3;comes:bond;bond 1;" + " ".repeat(19);
        BothKnow x = new BothKnow();
        int calls = 0;
        while (calls < 500) {
            // Four feeds, a reading, five others: ten calls a round.
            DUE.same("house", Due.read(x, text.substring(0, 80)), 8);
            DUE.same("year", x.year(calls, 1) < 0 ? 1 : 0, 0);
            DUE.same("image", x.image(calls / 10 % 2), 0);
            DUE.same("restore", x.restore(calls / 10 % 2), 0);
            DUE.same("bond", x.bond(3) < 0 ? 1 : 0, 0);
            DUE.same("forces", x.forces(0, 0) < -1 ? 1 : 0, 0);
            calls += 10;
        }
        Due.read(x, text.substring(0, 80));
        DUE.same("tell", x.tell(0, 3), 1);
        DUE.same("days", x.days(2), 2);
        DUE.same("undo", x.undo(2), 0);
        DUE.same("soonest", x.soonest(1, 1), 3);
        // Each fact is as old for both: four ways each.
        DUE.same("stands", x.stands(), 256);
        DUE.same("rows", x.rows(0, 0, 12), 282429536481L);
        DUE.same("the 512th", x.count(8), 8);
    }

    private static void yearsThatDoNothing() {
        DUE.says("how many could be; Calls that did some can be UNDONE");
        int none = 0;
        for (int seed = 0; seed < 60; seed++) {
            draw = seed;
            long deed = nextDeed();
            BothKnow x = Due.told("house;fact;may:1=2;");
            boolean can = deed == -1 || deed >= 200;
            DUE.same("a year of one time", x.year(seed, 1), can ? 1 : 0);
            DUE.same("count(6)", x.count(6), can ? 1 : 0);
            none += can ? 0 : 1;
        }
        DUE.holds("some seeds do nothing, some do", none > 0 && none < 60);
    }
}
