/** Promises 1 to 8: a new object, the text of the house and its faults, ages, doings, what a telling brings. */
public final class HouseTest {
    private static final Due DUE = new Due();

    public static void main(String[] args) {
        newObject();
        tape();
        readings();
        laterOnesStrike();
        tokens();
        faultsOfLines();
        faultsOfLaws();
        nesting();
        faultsChangeNothing();
        agesAndDoings();
        laws();
        lawsAreKeptInBounds();
        bringing();
        DUE.end();
    }

    private static void newObject() {
        BothKnow x = new BothKnow();
        for (int what = 0; what <= 8; what++) {
            DUE.same("new count(" + what + ")", x.count(what), 0);
        }
        DUE.same("new fault(0)", x.fault(0), 0);
        DUE.same("new fault(1)", x.fault(1), -1);
        DUE.same("new fault(2)", x.fault(2), -1);
        DUE.same("new does(1)", x.does(1), 0);
        DUE.same("new doing", x.doing(0, 0), -2);
        DUE.same("new age", x.age(0, 0), -2);
    }

    private static void tape() {
        BothKnow x = new BothKnow();
        for (int k = 1; k <= 45; k++) {
            DUE.same("feed " + k, x.feed(0x20202020, 0x20202020, 0x20202020, 0x20202020, 0x20202020), 20 * k);
        }
        DUE.same("feed 46", x.feed(0, 0, 0, 0, 0), -5);
        DUE.same("count(7) full", x.count(7), 900);
        DUE.same("house(901)", x.house(901), -3);
        DUE.same("house(-1)", x.house(-1), -3);
        DUE.same("count(7) stays", x.count(7), 900);
        DUE.same("fault(1) of none read", x.fault(1), -1);
        DUE.same("house of blanks", x.house(900), -32);
        DUE.same("its place is the length", x.fault(1), 900);
        DUE.same("count(7) behind", x.count(7), 0);
        DUE.same("house(1) of nothing", x.house(1), -3);
        DUE.same("house(0)", x.house(0), -32);
        DUE.same("place of house(0)", x.fault(1), 0);
        // 'hous', 'e;bo', 'nd 7', ';   ': the highest byte of each int is first.
        DUE.same("feed", x.feed(0x686F7573, 0x653B626F, 0x6E642037, 0x3B202020, 0x20202020), 20);
        DUE.same("house(13)", x.house(13), 2);
        DUE.same("bond", x.count(4), 7);
        DUE.same("the rest is gone", x.count(7), 0);
        StringBuilder long_ = new StringBuilder("house;");
        for (int k = 0; k < 127; k++) {
            long_.append("bond 7;");
        }
        DUE.same("900 bytes at most", Due.read(x, long_.toString()), 128);
        DUE.same("lines", x.count(8), 128);
    }

    private static void readings() {
        BothKnow x = new BothKnow();
        DUE.same("house;", Due.read(x, "house;"), 1);
        DUE.same("lines of house;", x.count(8), 1);
        DUE.same("all lines", Due.read(x, "house;fact;fact kind 9;doing;bond 9;knows 1 0 3;comes:1;may:1=1;"), 8);
        DUE.same("facts", x.count(0), 2);
        DUE.same("doings", x.count(1), 1);
        DUE.same("known to 0", x.count(2), 0);
        DUE.same("known to 1", x.count(3), 1);
        DUE.same("bond", x.count(4), 9);
        DUE.same("doings both do", x.count(5), 2);
        DUE.same("count(9)", x.count(9), -1);
        DUE.same("count(-1)", x.count(-1), -1);
        x.bond(3);
        DUE.same("undoable", x.count(6), 1);
        DUE.same("another house", Due.read(x, "house;fact;"), 2);
        DUE.same("nothing can be undone", x.count(6), 0);
        DUE.same("bond is anew", x.count(4), 0);
        DUE.same("ages are anew", x.age(1, 0), 0);
        DUE.same("four facts, six doings",
            Due.read(x, "house;fact;fact;fact;fact;doing;doing;doing;doing;doing;doing;"), 11);
    }

    private static void laterOnesStrike() {
        BothKnow x = Due.told("house;fact kind 1 kind 4;fact;"
            + "doing needs 0 age 1 needs 0 age 3 needs 1 age 2;doing but 0 needs 0 age 2;doing needs 0 age 2 but 0;"
            + "bond 2;bond 5;knows 0 0 3;knows 0 0 1;knows 1 1 2;knows 1 1 0;"
            + "comes:1;comes:kind;may:1=2;may:twin=0;");
        DUE.same("later age", x.doing(0, 10), 3);
        DUE.same("other age", x.doing(0, 11), 2);
        DUE.same("needs strikes but", x.doing(1, 1), 0);
        DUE.same("needs behind but", x.doing(1, 10), 2);
        DUE.same("but strikes needs", x.doing(2, 0), 0);
        DUE.same("but strikes its age", x.doing(2, 10), 0);
        DUE.same("but behind needs", x.doing(2, 1), 1);
        DUE.same("later bond", x.count(4), 5);
        DUE.same("later knows", x.age(0, 0), 1);
        DUE.same("later knows 0", x.age(1, 1), 0);
        DUE.same("later comes, later kind", x.brings(0, 0, 1), 3);
        DUE.same("later may", x.tell(1, 0), -13);
    }

    private static void fault(String text, int kind, int place) {
        BothKnow x = new BothKnow();
        DUE.same("'" + text + "'", Due.read(x, text), kind == 0 ? x.count(8) : -30 - kind);
        DUE.same("fault(0) of '" + text + "'", x.fault(0), kind);
        DUE.same("fault(1) of '" + text + "'", x.fault(1), place);
    }

    private static void tokens() {
        fault("house;fact;doing needs0age1but0;", 0, -1);
        fault(" \n house \n;\n\n", 0, -1);
        fault("house;bond 009;", 0, -1);
        fault("house;bond 0009;", 1, 11);
        fault("house;bond 00000;", 1, 11);
        fault("\thouse;", 1, 0);
        fault("House;", 1, 0);
        fault("house;" + (char) 200, 1, 6);
        fault("house;" + (char) 0, 1, 6);
        fault("house,", 1, 5);
        fault("housefact;", 2, 0);
        fault("house;a;", 2, 6);
        fault("house;z;", 2, 6);
        fault("house;bondz 1;", 2, 6);
        fault("house;zbond 1;", 2, 6);
        fault("house;bon 1;", 2, 6);
        fault("house;bonds 1;", 2, 6);
        fault("house;`;", 1, 6);
        fault("house;{;", 1, 6);
        fault("house;/;", 1, 6);
        fault("house;bond 99999999999999999999;", 1, 11);
        fault("ho use;", 2, 0);
        fault("house;bond -1;", 2, 11);
        fault("house;bond x;?", 2, 11);
        fault("house;bond 10?", 3, 11);
        fault("house;bond ?;", 1, 11);
        fault("1234;", 1, 0);
        fault("123;", 2, 0);
        fault("", 2, 0);
        fault("  ", 2, 2);
        fault("house   ", 2, 8);
    }

    private static void faultsOfLines() {
        fault("house;;", 2, 6);
        fault("house;fact;house;", 2, 11);
        fault("house;fact kind 9 kind 10;", 3, 23);
        fault("house;fact kind;", 2, 15);
        fault("house;fact needs 0 age 1;", 2, 11);
        fault("house;fact;doing kind 1;", 2, 17);
        fault("house;doing but 0;fact;", 3, 16);
        fault("house;fact;doing needs 1 age 1;fact;", 3, 23);
        fault("house;fact;doing needs 0 age 0;", 3, 29);
        fault("house;fact;doing needs 0 1;", 2, 25);
        fault("house;fact;doing needs age 1;", 2, 23);
        fault("house;fact;doing but but;", 2, 21);
        fault("house;fact;knows 0 0 0;", 0, -1);
        fault("house;fact;knows 2 0 0;", 3, 17);
        fault("house;knows 0 0 0;", 3, 14);
        fault("house;fact;knows 0 0 4;", 3, 21);
        fault("house;fact;knows 0 0 1 1;", 2, 23);
        fault("house;bond;", 2, 10);
        fault("house;bond 1 2;", 2, 13);
        fault("house;fact;fact;fact;fact;fact kind 77;", 4, 26);
        fault("house;doing;doing;doing;doing;doing;doing;doing ?;", 4, 42);
        fault("house;fact;fact;fact;fact", 2, 25);
    }

    private static void faultsOfLaws() {
        fault("house;comes 1;", 2, 12);
        fault("house;comes:;", 2, 12);
        fault("house;comes:1 2;", 2, 14);
        fault("house;comes:1+;", 2, 14);
        fault("house;comes:+1;", 2, 12);
        fault("house;comes:1*-1;", 2, 14);
        fault("house;comes:bond*bond-999;", 0, -1);
        fault("house;comes:1000;", 1, 12);
        fault("house;comes:known<1;", 2, 17);
        fault("house;comes:[1];", 2, 12);
        fault("house;comes:not 1;", 2, 12);
        fault("house;comes:if 1 then 1 else 2 end;", 2, 17);
        fault("house;comes:if 1=1 then 1 end;", 2, 26);
        fault("house;comes:if 1=1 then 1 else 2;", 2, 32);
        fault("house;comes:if bond=1 and not twin=0 or [kind>known] then (theirs) else fact end*2;", 0, -1);
        fault("house;comes:(1=1);", 2, 14);
        fault("house;comes:if (1)=1 then 1 else 1 end;", 0, -1);
        fault("house;comes:if (1=1) then 1 else 1 end;", 2, 17);
        fault("house;may:bond=1;", 2, 10);
        fault("house;may:if 1=bond then 1 else 1 end=1;", 2, 15);
        fault("house;may:1;", 2, 11);
        fault("house;may:1=1=1;", 2, 13);
        fault("house;may:1=1 and;", 2, 17);
        fault("house;may:or 1=1;", 2, 10);
        fault("house;may:[1=1);", 2, 14);
        fault("house;may:[1=1 or fact<kind] and not not twin>0;", 0, -1);
        fault("house;may:age=1;", 2, 10);
        fault("house;may:1=1", 2, 13);
    }

    private static void nesting() {
        fault("house;comes:((((((1))))));", 0, -1);
        fault("house;comes:(((((((1)))))));", 4, 18);
        fault("house;comes:((((((1))))))+((((((1))))));", 0, -1);
        fault("house;may:not not not not not not 1=1;", 0, -1);
        fault("house;may:not not not not not not not 1=1;", 4, 34);
        fault("house;may:not not not not not not 1=1 and not not not not not not 1=1;", 0, -1);
        fault("house;may:not not not not not not [1=1];", 4, 34);
        fault("house;may:not not not not not not (1)=1;", 4, 34);
        fault("house;may:[[[[[[1=1]]]]]] or 1=1;", 0, -1);
        fault("house;may:[[[[[[[1=1]]]]]]];", 4, 16);
        fault("house;may:[not(1)=if [1=1] then (1) else 1 end];", 0, -1);
        fault("house;comes:(((((if 1=1 then 1 else 1 end)))));", 0, -1);
        fault("house;comes:(((((if (1)=1 then 1 else 1 end)))));", 4, 20);
        fault("house;comes:((((((if", 4, 18);
        fault("house;comes:(((((if 1=1 then 1 else (1) end)))));", 4, 36);
    }

    private static void faultsChangeNothing() {
        BothKnow x = Due.told("house;fact;doing needs 0 age 1;knows 0 0 2;bond 4;comes:1;");
        x.days(1);
        DUE.same("faulty house", Due.read(x, "house;bond 7;comes:0;fact;fact;?"), -31);
        DUE.same("place", x.fault(1), 31);
        DUE.same("tape is empty", x.count(7), 0);
        DUE.same("facts stay", x.count(0), 1);
        DUE.same("bond stays", x.count(4), 4);
        DUE.same("age stays", x.age(0, 0), 3);
        DUE.same("lines stay", x.count(8), 6);
        DUE.same("law stays", x.brings(0, 0, 1), 1);
        DUE.same("undoing stays", x.undo(1), 0);
        DUE.same("age is back", x.age(0, 0), 2);
        Due.tape(x, "house;");
        DUE.same("too long", x.house(21), -3);
        DUE.same("the fault is of the latest that was read", x.fault(0), 1);
        DUE.same("house;", x.house(6), 1);
        DUE.same("no fault now", x.fault(0), 0);
        DUE.same("no place now", x.fault(1), -1);
    }

    private static void agesAndDoings() {
        BothKnow x = Due.told("house;fact;fact;fact;doing needs 0 age 2 but 2;doing;doing needs 1 age 1;"
            + "knows 0 0 2;knows 1 1 3;knows 1 0 1;");
        DUE.same("age(0, 0)", x.age(0, 0), 2);
        DUE.same("age(1, 0)", x.age(1, 0), 1);
        DUE.same("age(1, 1)", x.age(1, 1), 3);
        DUE.same("age(0, 2)", x.age(0, 2), 0);
        DUE.same("age(2, 0)", x.age(2, 0), -2);
        DUE.same("age(-1, 0)", x.age(-1, 0), -2);
        DUE.same("age(0, 3)", x.age(0, 3), -2);
        DUE.same("age(0, -1)", x.age(0, -1), -2);
        DUE.same("does(0)", x.does(0), 3);
        DUE.same("does(1)", x.does(1), 6);
        DUE.same("does(2)", x.does(2), -2);
        DUE.same("does(-1)", x.does(-1), -2);
        DUE.same("doing(0, 0)", x.doing(0, 0), 1);
        DUE.same("doing(0, 1)", x.doing(0, 1), 4);
        DUE.same("doing(0, 2)", x.doing(0, 2), 1);
        DUE.same("doing(1, 2)", x.doing(1, 2), 3);
        DUE.same("doing(2, 2)", x.doing(2, 2), 2);
        DUE.same("doing(0, 10)", x.doing(0, 10), 2);
        DUE.same("doing(0, 12)", x.doing(0, 12), 0);
        DUE.same("doing(0, 13)", x.doing(0, 13), -2);
        DUE.same("doing(0, 3)", x.doing(0, 3), -2);
        DUE.same("doing(0, 9)", x.doing(0, 9), -2);
        DUE.same("doing(0, -1)", x.doing(0, -1), -2);
        DUE.same("doing(3, 0)", x.doing(3, 0), -2);
        DUE.same("doing(-1, 0)", x.doing(-1, 0), -2);
        DUE.same("doing(0, least int)", x.doing(0, Integer.MIN_VALUE), -2);
        x.tell(0, 2);
        DUE.same("what is known mustn't be", x.does(0), 2);
    }

    private static void coming(String law, int twin, int fact, int want) {
        BothKnow x = Due.told("house;fact kind 2;fact kind 5;fact;bond 3;knows 0 2 1;knows 1 1 1;knows 1 2 3;"
            + "comes:" + law + ";");
        DUE.same("comes " + law + " for " + twin + " of " + fact, x.brings(twin, fact, 1 - twin), want);
    }

    private static void laws() {
        coming("twin", 0, 0, 0);
        coming("twin", 1, 0, 1);
        coming("fact+1", 0, 0, 1);
        coming("fact+1", 1, 1, 2);
        coming("kind", 0, 0, 2);
        coming("kind", 1, 1, 3);
        coming("known", 0, 0, 1);
        coming("known", 1, 0, 2);
        coming("theirs", 0, 0, 2);
        coming("theirs", 1, 0, 1);
        coming("bond-1", 0, 0, 2);
        coming("1-2", 0, 0, 0);
        coming("1-2", 0, 1, 1);
        coming("9", 0, 0, 3);
        coming("1+1*2-1", 0, 0, 2);
        coming("(1+1)*2-1", 0, 0, 3);
        coming("9-5-2", 0, 0, 2);
        coming("9-(5-2)-5", 0, 0, 1);
        coming("if twin=0 and fact=0 then 1 else 3 end", 0, 0, 1);
        coming("if twin=0 and fact=1 then 1 else 3 end", 0, 0, 3);
        coming("if 1=2 or 1<2 then 1 else 0 end", 0, 0, 1);
        coming("if 1=1 or 1=1 and 1=2 then 1 else 0 end", 0, 0, 1);
        coming("if [1=1 or 1=1] and 1=2 then 1 else 0 end", 0, 0, 0);
        coming("if not 1=2 and 1=2 then 1 else 0 end", 0, 0, 0);
        coming("if not [1=2 and 1=2] then 1 else 0 end", 0, 0, 1);
        coming("if 2>1 then if 2<1 then 0 else 2 end else 1 end", 0, 0, 2);
        coming("if bond>3 then 1 else 2 end", 0, 0, 2);
        BothKnow x = Due.told("house;fact;");
        DUE.same("without a law", x.brings(0, 0, 1), 2);
        DUE.same("for the one told", x.brings(0, 0, 0), 1);
    }

    private static void lawsAreKeptInBounds() {
        // 999 * 999 * 999 is kept at a million, less 999999 is 1.
        coming("999*999*999-999*999-999-999", 0, 0, 1);
        coming("999*999*2-999*999-999-999", 0, 0, 1);
        coming("0-999*999*2+999*999+999+999+2", 0, 0, 1);
        coming("999*999+999+999+999-999*999-999-999", 0, 0, 1);
        coming("(0-999)*999*999+999*999+999+999+1", 0, 0, 0);
        coming("(0-999)*999*999+999*999+999+999+2", 0, 0, 1);
    }

    private static void bringing() {
        BothKnow x = Due.told("house;fact;fact;knows 0 0 2;knows 1 0 3;comes:1;may:not [twin=1 and fact=1];");
        DUE.same("it stays as it was", x.brings(0, 0, 0), 2);
        DUE.same("the greater one", x.brings(0, 0, 1), 3);
        DUE.same("one that wasn't known", x.brings(0, 1, 0), 1);
        DUE.same("the other one's", x.brings(0, 1, 1), 1);
        DUE.same("the law may", x.brings(1, 1, 0), -5);
        DUE.same("what ahead of the law", x.brings(1, 1, 2), -2);
        DUE.same("no such what", x.brings(0, 0, -1), -2);
        DUE.same("no such twin", x.brings(2, 0, 0), -2);
        DUE.same("no such fact", x.brings(0, 2, 0), -2);
        DUE.same("nothing has changed", x.age(0, 1), 0);
        DUE.same("nothing can be undone", x.count(6), 0);
    }
}
