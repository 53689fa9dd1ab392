/** Promises 1 to 4 and the terms' part 1, an edge at a time: the tape, the text, its tokens, its bounds, its faults. */
public final class TextEdgesTest {
    private static final Due DUE = new Due();
    private static final String SIGNS = ";:+-*()[]=<>";
    private static final String[] OPENERS = {"not ", "[", "(", "if "};

    public static void main(String[] args) {
        withoutAHouse();
        tapeBytes();
        tapeIsFull();
        atMost900Bytes();
        lengthsOfHouse();
        lengthsRefused();
        tapeIsEmptyThen();
        nothingCanBeUndoneThen();
        allStaysWithAFault();
        faultOfTheLatest();
        eachHouseIsReadAnew();
        eachByte();
        tokensGoOn();
        digits();
        linesBegin();
        linesEnd();
        linesOfFactAndDoing();
        linesOfBondAndKnows();
        sums();
        choices();
        truths();
        bondInMay();
        sixWithinOneAnother();
        seventhOfEach();
        whatIsClosedDoesntCount();
        boundsOfN();
        boundsOfFacts();
        fourFacts();
        sixDoings();
        laterOnesStrike();
        manyLawsStrike();
        firstAlongTheText();
        leastKind();
        theEnd();
        houseFirstAndOnce();
        DUE.end();
    }

    private static String blanks(int n) {
        return " ".repeat(Math.max(0, n));
    }

    private static void reads(String text, int lines) {
        BothKnow x = new BothKnow();
        DUE.same("lines of '" + text + "'", Due.read(x, text), lines);
        DUE.same("fault(0) of '" + text + "'", x.fault(0), 0);
        DUE.same("fault(1) of '" + text + "'", x.fault(1), -1);
        DUE.same("count(8) of '" + text + "'", x.count(8), lines);
    }

    /** The fault's place is marked by ^ in the text. */
    private static void faulty(int kind, String marked) {
        faulty(kind, marked.replace("^", ""), marked.indexOf('^'));
    }

    private static void faulty(int kind, String text, int place) {
        BothKnow x = new BothKnow();
        DUE.same("'" + text + "'", Due.read(x, text), -30 - kind);
        DUE.same("fault(0) of '" + text + "'", x.fault(0), kind);
        DUE.same("fault(1) of '" + text + "'", x.fault(1), place);
        DUE.same("facts of '" + text + "'", x.count(0), 0);
        DUE.same("lines of '" + text + "'", x.count(8), 0);
    }

    // ---- the tape and the reading of it

    private static void withoutAHouse() {
        DUE.says("without one: no FACTS, no DOINGS, BOND 0");
        BothKnow x = new BothKnow();
        for (int what = 0; what <= 8; what++) {
            DUE.same("count(" + what + ")", x.count(what), 0);
        }
        DUE.same("age(0, 0)", x.age(0, 0), -2);
        DUE.same("doing(0, 0)", x.doing(0, 0), -2);
        DUE.same("soonest(1, 0): no doing", x.soonest(1, 0), -3);
        DUE.same("soonest(0, 0)", x.soonest(0, 0), 0);
        DUE.same("bond(0)", x.bond(0), 0);
        for (int tray = 0; tray < 4; tray++) {
            DUE.same("a tray is missing", x.perform(tray), -6);
        }
        DUE.same("no image 0", x.restore(0), -5);
        DUE.same("no image 1", x.restore(1), -5);
    }

    private static void tapeBytes() {
        DUE.says("Twenty bytes come behind those on THE TAPE, the highest of each int first");
        // A byte that begins no token at each of forty places in turn: the fault tells where it came.
        for (int place = 0; place < 40; place++) {
            for (int b : new int[] {0x80, 0xFF, 0x01}) {
                String text = "house;" + blanks(34);
                int[] words = new int[10];
                for (int k = 0; k < 40; k++) {
                    words[k / 4] |= (k == place ? b : text.charAt(k)) << 24 - 8 * (k % 4);
                }
                BothKnow x = new BothKnow();
                DUE.same("feed", x.feed(words[0], words[1], words[2], words[3], words[4]), 20);
                DUE.same("feed again", x.feed(words[5], words[6], words[7], words[8], words[9]), 40);
                x.house(40);
                boolean cutsWord = place > 0 && place < 5;
                DUE.same("place of byte " + b, x.fault(1), cutsWord ? 0 : place);
                DUE.same("fault of byte " + b, x.fault(0), cutsWord ? 2 : 1);
            }
        }
    }

    private static void tapeIsFull() {
        DUE.says("-5: it would have more than 900");
        BothKnow x = new BothKnow();
        String text = "house;" + blanks(887) + "bond 7;";
        Due.tape(x, text.substring(0, 880));
        DUE.same("880 bytes", x.count(7), 880);
        Due.tape(x, text.substring(880));
        DUE.same("900 bytes", x.count(7), 900);
        for (int k = 0; k < 3; k++) {
            DUE.same("feed to a full tape", x.feed(0x3F3F3F3F, 0x3F3F3F3F, 0x3F3F3F3F, 0x3F3F3F3F, 0x3F3F3F3F), -5);
            DUE.same("still 900 bytes", x.count(7), 900);
        }
        DUE.same("they are as they were", x.house(900), 2);
        DUE.same("feed again", x.feed(0, 0, 0, 0, 0), 20);
    }

    private static void atMost900Bytes() {
        DUE.says("THE HOUSE is a TEXT of at most 900 bytes");
        BothKnow x = new BothKnow();
        DUE.same("the last byte is read", Due.read(x, "house;" + blanks(887) + "bond 7;"), 2);
        DUE.same("bond", x.count(4), 7);
        faulty(1, "house;" + blanks(887) + "bond 7^?");
        faulty(2, "house;" + blanks(888) + "bond 7^");
        StringBuilder sum = new StringBuilder("house;comes:1");
        while (sum.length() < 897) {
            sum.append("+0");
        }
        reads(sum.append(" ; ").toString(), 2);
        StringBuilder truth = new StringBuilder("house;fact;may:0=1");
        while (truth.length() < 886) {
            truth.append("or 1=0");
        }
        String law = truth.append("or 1=1").toString();
        law += blanks(899 - law.length()) + ";";
        DUE.same("a law of nearly 900 bytes", Due.read(x, law), 3);
        DUE.same("its last part holds", x.tell(0, 0), 2);
    }

    private static void lengthsOfHouse() {
        DUE.says("The first n bytes of THE TAPE are THE HOUSE");
        for (int n = 0; n <= 20; n++) {
            BothKnow x = new BothKnow();
            Due.tape(x, "house;bond 7;fact;  ");
            boolean whole = n == 6 || n == 13 || n >= 18;
            // The bytes behind the first n are no part of it: it ends there.
            DUE.same("house(" + n + ")", x.house(n), whole ? n == 6 ? 1 : n == 13 ? 2 : 3 : -32);
            DUE.same("bond of " + n, x.count(4), whole && n >= 13 ? 7 : 0);
            DUE.same("facts of " + n, x.count(0), whole && n >= 18 ? 1 : 0);
        }
    }

    private static void lengthsRefused() {
        DUE.says("-3: n is below 0 or above what there is (THE TAPE stays)");
        BothKnow x = new BothKnow();
        DUE.same("house(1) of an empty tape", x.house(1), -3);
        DUE.same("no house was read", x.fault(1), -1);
        Due.tape(x, "house;fact;bond 7;  ");
        for (int n : new int[] {-1, 21, 40, 900, 901, Integer.MIN_VALUE, Integer.MAX_VALUE}) {
            DUE.same("house(" + n + ")", x.house(n), -3);
            DUE.same("the tape stays", x.count(7), 20);
            DUE.same("no house was read", x.fault(0), 0);
        }
        DUE.same("it is as it was", x.house(20), 3);
        DUE.same("nothing is there now", x.house(1), -3);
        DUE.same("an empty text", x.house(0), -32);
    }

    private static void tapeIsEmptyThen() {
        DUE.says("THE TAPE (which is empty then)");
        BothKnow x = new BothKnow();
        Due.tape(x, "house;              bond 7;fact;        ");
        DUE.same("the first six", x.house(6), 1);
        DUE.same("empty", x.count(7), 0);
        DUE.same("the rest is gone", x.house(1), -3);
        Due.tape(x, "house;bond 3;");
        DUE.same("twenty anew", x.count(7), 20);
        DUE.same("they are read", x.house(20), 2);
        Due.tape(x, "house;?             bond 7;");
        DUE.same("a fault", x.house(40), -31);
        DUE.same("empty behind a fault, too", x.count(7), 0);
        Due.tape(x, "house;bond 4;");
        DUE.same("nothing of it is left", x.house(20), 2);
    }

    private static void nothingCanBeUndoneThen() {
        DUE.says("are THE HOUSE, nothing can be UNDONE: how many LINES (house, too)");
        BothKnow x = new BothKnow();
        for (int k = 0; k < 10; k++) {
            x.bond(k);
        }
        DUE.same("ten calls", x.count(6), 10);
        DUE.same("house;", Due.read(x, "house;"), 1);
        DUE.same("none", x.count(6), 0);
        DUE.same("undo(1)", x.undo(1), -3);
        DUE.same("bond", x.count(4), 0);
        DUE.same("lines", Due.read(x, "house;bond 1;bond 2;fact;fact;knows 0 0 1;knows 0 0 1;may:1=1;may:1=1;comes:1;"), 10);
        DUE.same("count(8)", x.count(8), 10);
    }

    private static void allStaysWithAFault() {
        DUE.says("all stays with a FAULT");
        String[] faults = {"house;fact;fact;fact;bond 1;knows 0 0 1;comes:0;may:1=2;doing;?", "house;fact;fact;bond 1;doing;a",
            "house;fact;fact;fact;doing;doing;bond 10;", "house;fact;fact;fact;fact;fact;"};
        for (int kind = 1; kind <= 4; kind++) {
            BothKnow x = Due.told("house;fact kind 3;doing needs 0 age 2;doing but 0;knows 0 0 2;bond 4;comes:kind-2;may:twin=0;");
            Due.tray(x, 0, 0, -1);
            x.image(1);
            x.days(1);
            x.bond(6);
            DUE.same(faults[kind - 1], Due.read(x, faults[kind - 1]), -30 - kind);
            DUE.same("facts", x.count(0), 1);
            DUE.same("doings", x.count(1), 2);
            DUE.same("lines", x.count(8), 8);
            DUE.same("age", x.age(0, 0), 3);
            DUE.same("need", x.doing(0, 10), 2);
            DUE.same("but", x.doing(1, 1), 1);
            DUE.same("doings of 0", x.does(0), 1);
            DUE.same("law comes", x.brings(0, 0, 1), 1);
            DUE.same("law may", x.tell(1, 0), -13);
            DUE.same("a tray", x.judge(0, 3), 1);
            DUE.same("coming", x.soonest(1, 1), 2);
            DUE.same("two calls can be undone", x.undo(1), 1);
            DUE.same("bond", x.count(4), 4);
            DUE.same("the other one", x.undo(1), 0);
            DUE.same("age", x.age(0, 0), 2);
            DUE.same("the image", x.restore(1), 0);
            DUE.same("its lines", x.count(8), 8);
        }
    }

    private static void faultOfTheLatest() {
        DUE.says("Of the latest house() that was read, what 0: its FAULT (0), 1: its place (NONE). NONE for others");
        BothKnow x = new BothKnow();
        DUE.same("none was read, fault(0)", x.fault(0), 0);
        DUE.same("none was read, fault(1)", x.fault(1), -1);
        Due.read(x, "house;bond 10;");
        DUE.same("fault(0)", x.fault(0), 3);
        DUE.same("fault(1)", x.fault(1), 11);
        for (int what : new int[] {-1, 2, 3, Integer.MIN_VALUE, Integer.MAX_VALUE}) {
            DUE.same("fault(" + what + ")", x.fault(what), -1);
        }
        x.house(1);
        DUE.same("one that wasn't read, fault(0)", x.fault(0), 3);
        DUE.same("one that wasn't read, fault(1)", x.fault(1), 11);
        x.image(0);
        Due.read(x, "house?");
        DUE.same("the next, fault(0)", x.fault(0), 1);
        DUE.same("the next, fault(1)", x.fault(1), 5);
        x.restore(0);
        DUE.same("an image hasn't it", x.fault(1), 5);
        Due.read(x, "house;");
        DUE.same("without a fault, fault(0)", x.fault(0), 0);
        DUE.same("without a fault, fault(1)", x.fault(1), -1);
        Due.read(x, "");
        DUE.same("an empty text, fault(0)", x.fault(0), 2);
        DUE.same("an empty text, fault(1)", x.fault(1), 0);
    }

    private static void eachHouseIsReadAnew() {
        DUE.says("are THE HOUSE: nothing of an earlier one is left");
        String rich = "house;fact kind 3;fact kind 3;fact kind 3;fact kind 3;doing needs 0 age 3 needs 1 age 3 but 2 but 3;"
            + "doing but 0 but 1 needs 2 age 3 needs 3 age 3;bond 7;knows 0 0 3;knows 0 3 3;knows 1 0 3;knows 1 3 3;comes:0;may:1=2;";
        for (int between = 1; between <= 6; between++) {
            BothKnow x = new BothKnow();
            for (int k = 0; k < between; k++) {
                DUE.same("a rich one", Due.read(x, rich), 14);
                DUE.same("its bond", x.count(4), 7);
            }
            for (int k = 0; k < 6; k++) {
                DUE.same("a plain one", Due.read(x, "house;fact;fact;fact;fact;doing;doing;" + (k % 2 == 0 ? "comes:kind;" : "")), k % 2 == 0 ? 8 : 7);
                for (int f = 0; f < 4; f++) {
                    DUE.same("no age", x.age(0, f) + x.age(1, f), 0);
                    DUE.same("no kind, or no law", x.brings(0, f, 1), k % 2 == 0 ? 0 : 2);
                    DUE.same("no needs", x.doing(0, 10 + f) + x.doing(1, 10 + f), 0);
                }
                DUE.same("nothing that must not be known", x.doing(0, 1) + x.doing(1, 1), 0);
                DUE.same("both do both", x.does(0) * 10 + x.does(1), 33);
                DUE.same("bond", x.count(4), 0);
            }
        }
        // Long laws again and again: what they need is as much as ever.
        StringBuilder sum = new StringBuilder("house;fact;comes:0");
        while (sum.length() < 890) {
            sum.append("+0");
        }
        BothKnow x = new BothKnow();
        for (int k = 0; k < 6; k++) {
            DUE.same("a long law", Due.read(x, sum + "+" + k % 4 + ";"), 3);
            DUE.same("what it tells", x.brings(0, 0, 1), k % 4);
            DUE.same("a fault", Due.read(x, sum + "+?"), -31);
            DUE.same("it stays", x.brings(0, 0, 1), k % 4);
        }
    }

    // ---- tokens

    private static boolean isLetter(int b) {
        return b >= 'a' && b <= 'z';
    }

    private static boolean isDigit(int b) {
        return b >= '0' && b <= '9';
    }

    private static void eachByte() {
        DUE.says("between them blanks (10, 32): words (small letters), N, the signs; 1 no TOKEN begins so");
        for (int b = 0; b < 256; b++) {
            char c = (char) b;
            boolean sign = SIGNS.indexOf(c) >= 0;
            if (b == 10 || b == 32) {
                reads("house;" + c, 1);
                reads(c + "house" + c + ";" + c + c, 1);
            } else {
                faulty(isLetter(b) || isDigit(b) || sign ? 2 : 1, "house;" + c, 6);
                faulty(isLetter(b) || isDigit(b) || sign ? 2 : 1, c + "house;", 0);
                // Behind letters letters go on, so that the word is another one.
                faulty(isLetter(b) || isDigit(b) || sign ? 2 : 1, "house" + c + ";", isLetter(b) ? 0 : c == ';' ? 6 : 5);
            }
        }
    }

    private static void tokensGoOn() {
        DUE.says("TOKENS, as long as they go on");
        reads("house;fact kind1kind2;doing needs0age1but0needs0age3;bond7;knows1 0 3;comes:if1=1then2else3end;may:not1=2and2=2;", 7);
        reads("house;comes:1-1+1*1;may:(1)=(1)and[1<2];", 3);
        faulty(2, "^housefact;");
        faulty(2, "^hous;");
        faulty(2, "^ho use;");
        faulty(2, "house;^bonds 1;");
        faulty(2, "house;^bon 1;");
        faulty(2, "house;bond 1 ^2;");
        faulty(3, "house;bond ^12;");
        faulty(2, "house;comes:11 ^1;");
        faulty(2, "house;may:1<^>1;");
        faulty(2, "house;may:1=^=1;");
        faulty(2, "house;comes:^notwin;");
        faulty(2, "house;comes:^iftwin;");
        for (String word : new String[] {"house", "fact", "doing", "bond", "knows", "comes", "may", "kind", "needs", "age",
            "but", "if", "then", "else", "end", "twin", "known", "theirs", "or", "and", "not"}) {
            // A word that is longer or shorter by one letter is another word.
            faulty(2, "house;comes:1+^" + word + "s;");
            faulty(2, "house;comes:1+^a" + word + ";");
            faulty(2, "house;comes:1+^" + word.substring(1) + ";");
            faulty(2, "house;comes:1+^" + word.substring(0, word.length() - 1) + ";");
        }
    }

    private static void digits() {
        DUE.says("N (1 to 3 digits); 1 no TOKEN begins so (4 digits and more: at their first)");
        reads("house;bond 7;", 2);
        reads("house;bond 07;", 2);
        reads("house;bond 007;", 2);
        reads("house;comes:0+00+000+999;", 2);
        faulty(1, "house;bond ^0007;");
        faulty(1, "house;bond ^0000;");
        faulty(1, "house;comes:^1000;");
        faulty(1, "house;comes:1+^9999;");
        // 2 to the 32nd, 64th: what wraps around to 0; then 890 digits.
        faulty(1, "house;bond ^4294967296;");
        faulty(1, "house;bond ^18446744073709551616;");
        faulty(1, "house;^" + "1".repeat(893) + ";");
        faulty(1, "^1234;");
        faulty(2, "^123;");
        faulty(2, "house;comes:123 ^4;");
        faulty(1, "house;bond 1^/;");
        faulty(2, "house;bond 1^:;");
    }

    // ---- lines

    private static void linesBegin() {
        DUE.says("house ; { LINE ; } LINE: fact, doing, bond, knows, comes, may");
        reads("house;", 1);
        for (String word : new String[] {"kind", "needs", "age", "but", "if", "then", "else", "end", "twin", "known",
            "theirs", "or", "and", "not", "x", "1", ":", "+", "(", "=", "]"}) {
            faulty(2, "house;^" + word + ";");
            faulty(2, "house;fact;^" + word + ";");
            faulty(2, "house ^" + word + ";");
        }
        faulty(2, "house;^;");
        faulty(2, "house;fact;^;");
        faulty(2, "^;");
    }

    private static void linesEnd() {
        DUE.says("house ; { LINE ; }");
        faulty(2, "house ^fact;");
        faulty(2, "house;fact ^fact;");
        faulty(2, "house;fact ^doing;");
        faulty(2, "house;doing ^doing;");
        faulty(2, "house;bond 1 ^fact;");
        faulty(2, "house;fact;knows 0 0 0 ^fact;");
        faulty(2, "house;comes:1 ^bond 1;");
        faulty(2, "house;may:1=1 ^bond 1;");
        faulty(2, "house;bond 1^:");
    }

    private static void linesOfFactAndDoing() {
        DUE.says("fact { LOOK }, LOOK: kind N; doing { NEED }, NEED: needs N age N, but N");
        reads("house;fact;fact kind 1;fact kind 1 kind 2 kind 3 kind 4 kind 5;", 4);
        faulty(2, "house;fact kind^;");
        faulty(2, "house;fact kind ^kind 1;");
        faulty(2, "house;fact kind 1 ^1;");
        faulty(2, "house;fact ^1;");
        faulty(2, "house;fact ^but 0;");
        faulty(2, "house;fact kind ^-1;");
        reads("house;fact;doing;doing but 0;doing needs 0 age 1;doing but 0 but 0 needs 0 age 1 needs 0 age 2 but 0;", 6);
        faulty(2, "house;fact;doing needs^;");
        faulty(2, "house;fact;doing needs 0^;");
        faulty(2, "house;fact;doing needs 0 age^;");
        faulty(2, "house;fact;doing needs 0 ^but 0;");
        faulty(2, "house;fact;doing needs 0 ^0;");
        faulty(2, "house;fact;doing needs 0 age 1 ^age 1;");
        faulty(2, "house;fact;doing ^age 1;");
        faulty(2, "house;fact;doing ^0;");
        faulty(2, "house;fact;doing but^;");
        faulty(2, "house;fact;doing but 0 ^age 1;");
        faulty(2, "house;fact;doing ^kind 1;");
    }

    private static void linesOfBondAndKnows() {
        DUE.says("bond N, knows N N N");
        faulty(2, "house;bond^;");
        faulty(2, "house;bond ^bond;");
        faulty(2, "house;bond 1 ^1;");
        faulty(2, "house;bond ^(1);");
        faulty(2, "house;fact;knows^;");
        faulty(2, "house;fact;knows 0^;");
        faulty(2, "house;fact;knows 0 0^;");
        faulty(2, "house;fact;knows 0 0 0 ^0;");
        faulty(2, "house;fact;knows 0 ^age 0;");
        reads("house;fact;knows 0 0 0;", 3);
    }

    // ---- laws

    private static void sums() {
        DUE.says("SUM: TERM { + TERM | - TERM }; TERM: ATOM { * ATOM }; ATOM: N, ( SUM ), names; comes : SUM");
        reads("house;comes:1;comes:(1);comes:twin+fact-kind*known*theirs-bond;comes:(1+1)*(1-1);", 5);
        faulty(2, "house;comes ^1;");
        faulty(2, "house;comes:^:1;");
        faulty(2, "house;comes:^;");
        faulty(2, "house;comes:^+1;");
        faulty(2, "house;comes:^-1;");
        faulty(2, "house;comes:^*1;");
        faulty(2, "house;comes:1+^;");
        faulty(2, "house;comes:1-^;");
        faulty(2, "house;comes:1*^;");
        faulty(2, "house;comes:1+^+1;");
        faulty(2, "house;comes:1*^-1;");
        faulty(2, "house;comes:1 ^1;");
        faulty(2, "house;comes:1 ^twin;");
        faulty(2, "house;comes:(^);");
        faulty(2, "house;comes:(1^;");
        faulty(2, "house;comes:(1^];");
        faulty(2, "house;comes:1^);");
        faulty(2, "house;comes:1^=1;");
        faulty(2, "house;comes:(1^=1);");
        faulty(2, "house;comes:^[1];");
        faulty(2, "house;comes:^not 1;");
        for (String word : new String[] {"age", "needs", "but", "then", "else", "end", "or", "and", "knows", "comes", "may",
            "doing", "house"}) {
            faulty(2, "house;comes:^" + word + ";");
        }
    }

    private static void choices() {
        DUE.says("if TRUTH then SUM else SUM end");
        reads("house;comes:if 1=1 then 1 else 2 end;comes:1+if 1=1 then 1 else 2 end*if 1=1 then 1 else 2 end;", 3);
        reads("house;may:if 1=1 then 1 else 2 end=if not[1=1]then 1+1 else(2)end;", 2);
        faulty(2, "house;comes:if ^then 1 else 2 end;");
        faulty(2, "house;comes:if 1 ^then 1 else 2 end;");
        faulty(2, "house;comes:if 1=1 ^else 2 end;");
        faulty(2, "house;comes:if 1=1 ^1 else 2 end;");
        faulty(2, "house;comes:if 1=1 then ^else 2 end;");
        faulty(2, "house;comes:if 1=1 then 1 ^end;");
        faulty(2, "house;comes:if 1=1 then 1 ^then 1 else 2 end;");
        faulty(2, "house;comes:if 1=1 then 1 else ^end;");
        faulty(2, "house;comes:if 1=1 then 1 else 2^;");
        faulty(2, "house;comes:if 1=1 then 1 else 2 ^else 3 end;");
        faulty(2, "house;comes:if 1=1 then 1 else 2 end ^end;");
        faulty(2, "house;comes:if 1=1 then 1^=1 else 2 end;");
        faulty(2, "house;comes:if (1^=1) then 1 else 2 end;");
    }

    private static void truths() {
        DUE.says("TRUTH: BOTH { or BOTH }; BOTH: UNIT { and UNIT }; UNIT: not UNIT, [ TRUTH ], or SUM, one of = < >, SUM");
        reads("house;may:1=1;may:1<1;may:1>1;may:1=1 or 1=1 or 1=1;may:1=1 and 1=1 and 1=1;may:not[1=1 or not 1=1]and[1=1];", 7);
        faulty(2, "house;may ^1=1;");
        faulty(2, "house;may:^;");
        faulty(2, "house;may:1^;");
        faulty(2, "house;may:^=1;");
        faulty(2, "house;may:1=^;");
        faulty(2, "house;may:1=1^=1;");
        faulty(2, "house;may:1=1^<1;");
        faulty(2, "house;may:1^);");
        faulty(2, "house;may:1=1 ^1=1;");
        faulty(2, "house;may:1=1 or ^or 1=1;");
        faulty(2, "house;may:1=1 and ^and 1=1;");
        faulty(2, "house;may:1=1 and ^or 1=1;");
        faulty(2, "house;may:^or 1=1;");
        faulty(2, "house;may:1=1 or^;");
        faulty(2, "house;may:1=1 and^;");
        faulty(2, "house;may:not^;");
        faulty(2, "house;may:1=1 ^not 1=1;");
        faulty(2, "house;may:not 1^;");
        faulty(2, "house;may:[^];");
        faulty(2, "house;may:[1^];");
        faulty(2, "house;may:[1=1^;");
        faulty(2, "house;may:[1=1^);");
        faulty(2, "house;may:1=1^];");
        faulty(2, "house;may:[1=1]^=1;");
        faulty(2, "house;may:1=^[1];");
        faulty(2, "house;may:1=^not 1;");
        faulty(2, "house;may:(1^=1);");
    }

    private static void bondInMay() {
        DUE.says("in comes bond too; 2 it can't stand there (bond in may)");
        reads("house;comes:bond;comes:(bond)*bond+if bond=bond then bond else bond end;", 3);
        faulty(2, "house;may:^bond=1;");
        faulty(2, "house;may:1=^bond;");
        faulty(2, "house;may:1=(1+^bond);");
        faulty(2, "house;may:1=1*^bond;");
        faulty(2, "house;may:[not ^bond=1];");
        faulty(2, "house;may:1=if ^bond=1 then 1 else 1 end;");
        faulty(2, "house;may:1=if 1=1 then ^bond else 1 end;");
        faulty(2, "house;may:1=if 1=1 then 1 else ^bond end;");
        faulty(2, "house;comes:bond;may:^bond=1;");
        reads("house;may:1=1;comes:bond;", 3);
    }

    /** Openers within one another, each closed behind 1=1 or 1. */
    private static String nested(String openers) {
        StringBuilder text = new StringBuilder("house;may:");
        StringBuilder behind = new StringBuilder();
        boolean inSum = false;
        for (char c : openers.toCharArray()) {
            String closing = switch (c) {
                case 'n' -> "";
                case '[' -> "]";
                case '(' -> inSum ? ")" : ")=1";
                default -> "=1 then 1 else 1 end" + (inSum ? "" : "=1");
            };
            text.append(c == 'n' ? "not " : c == 'i' ? "if " : "" + c);
            behind.insert(0, closing);
            // Behind if a truth is asked for, which here goes on as a sum.
            inSum = c == '(' || c == 'i';
        }
        return text + "1" + (inSum ? "" : "=1") + behind + ";";
    }

    private static void sixWithinOneAnother() {
        DUE.says("At most six of not [ ( if within one another");
        for (String six : new String[] {"nnnnnn", "[[[[[[", "((((((", "iiiiii", "n[n[(i", "[[[nni", "nnn(((", "nni(((", "i(i(i("}) {
            reads(nested(six), 2);
        }
        reads("house;comes:((((((1))))));", 2);
        reads("house;comes:if if if if if if 1=1 then 1 else 1 end=1 then 1 else 1 end=1 then 1 else 1 end=1 then 1 else 1 end=1 "
            + "then 1 else 1 end=1 then 1 else 1 end;", 2);
        reads("house;comes:if 1=1 then if 1=1 then if 1=1 then if 1=1 then if 1=1 then (1) else 1 end else 1 end else 1 end else 1 end else 1 end;", 2);
        reads("house;comes:if 1=1 then 1 else if 1=1 then 1 else if 1=1 then 1 else if 1=1 then 1 else if 1=1 then 1 else (1) end end end end end;", 2);
    }

    private static void seventhOfEach() {
        DUE.says("4: a seventh of not [ ( if");
        for (String six : new String[] {"not not not not not not ", "[[[[[[", "not [not [not [", "[[[not not not "}) {
            for (String opener : OPENERS) {
                faulty(4, "house;may:" + six + "^" + opener + "1=1;");
            }
        }
        for (String six : new String[] {"((((((", "if not [if [("}) {
            for (String opener : new String[] {"(", "if "}) {
                faulty(4, "house;comes:" + six + "^" + opener + "1");
                faulty(4, "house;comes:1+" + six + "1*^" + opener + "1");
            }
        }
        faulty(4, "house;comes:(((((if 1=^(1) then 1 else 1 end)))));");
        faulty(4, "house;comes:(((((if 1=1 then ^(1) else 1 end)))));");
        faulty(4, "house;comes:(((((if 1=1 then 1 else ^(1) end)))));");
        faulty(4, "house;comes:(((((if 1=1 and ^not 1=1 then 1 else 1 end)))));");
        faulty(4, "house;comes:(((((if 1=1 or ^[1=1] then 1 else 1 end)))));");
        faulty(4, "house;may:[[[[[[1=1 or 1=^(1)]]]]]];");
    }

    private static void whatIsClosedDoesntCount() {
        DUE.says("six within one another: what is closed holds nothing any more");
        reads("house;comes:((((((1))))))+((((((1))))))*((((((1))))));comes:((((((1))))));", 3);
        reads("house;may:not not not not not not 1=1 and not not not not not not 1=1 or not not not not not not 1=1;", 2);
        reads("house;may:[[[[[[1=1]]]]]] and [[[[[[1=1]]]]]] or [[[[[[1=1]]]]]];", 2);
        reads("house;may:(((((1)))))=((((((1))))));", 2);
        reads("house;may:[[[[[not 1=1 and not 1=1 or not 1=1]]]]];", 2);
        reads("house;comes:(1)+(1)+(1)+(1)+(1)+(1)+(1)+(1)+(1);", 2);
        reads("house;comes:(((((if 1=1 then 1 else 1 end+if 1=1 then 1 else 1 end+(1))))));", 2);
    }

    // ---- bounds

    private static void boundsOfN() {
        DUE.says("3 an N out of its bounds: kind 0 to 9, AGE 1 to 3, bond 0 to 9, TWIN 0 or 1, AGE 0 to 3");
        for (int n = 0; n <= 999; n++) {
            if (n > 20 && n % 100 > 11) {
                continue;
            }
            bounds(n, 0, 9, "house;fact kind ^" + n + ";", 2);
            bounds(n, 0, 9, "house;fact kind 1 kind ^" + n + ";", 2);
            bounds(n, 1, 3, "house;fact;doing needs 0 age ^" + n + ";", 3);
            bounds(n, 0, 9, "house;bond ^" + n + ";", 2);
            bounds(n, 0, 1, "house;fact;knows ^" + n + " 0 1;", 3);
            bounds(n, 0, 3, "house;fact;knows 0 0 ^" + n + ";", 3);
            reads("house;comes:" + n + ";may:" + n + "=" + n + ";", 3);
        }
    }

    private static void bounds(int n, int low, int high, String marked, int lines) {
        if (n >= low && n <= high) {
            reads(marked.replace("^", ""), lines);
        } else {
            faulty(3, marked);
        }
    }

    private static void boundsOfFacts() {
        DUE.says("a FACT told ahead; 3 an N out of its bounds (a FACT that isn't told)");
        for (int told = 0; told <= 4; told++) {
            String facts = "house;" + "fact;".repeat(told);
            for (int n : new int[] {0, 1, 2, 3, 4, 5, 9, 10, 256, 999}) {
                bounds(n, 0, told - 1, facts + "doing needs ^" + n + " age 1;", told + 2);
                bounds(n, 0, told - 1, facts + "doing but ^" + n + ";", told + 2);
                bounds(n, 0, told - 1, facts + "knows 1 ^" + n + " 3;", told + 2);
                if (told < 4) {
                    bounds(n, 0, told - 1, facts + "doing but ^" + n + ";fact;", told + 3);
                    bounds(n, 0, told - 1, facts + "knows 1 ^" + n + " 3;fact;", told + 3);
                }
            }
        }
    }

    private static void fourFacts() {
        DUE.says("numbered from 0 on, 4 at most; 4 the first TOKEN of a 5th fact");
        BothKnow x = Due.told("house;fact kind 5;fact kind 6;fact kind 7;fact kind 8;knows 1 3 2;comes:kind-6;");
        DUE.same("facts", x.count(0), 4);
        DUE.same("age(1, 3)", x.age(1, 3), 2);
        DUE.same("age(1, 4)", x.age(1, 4), -2);
        int[] comes = {0, 0, 1, 2};
        for (int f = 0; f < 4; f++) {
            DUE.same("kind of " + f, x.brings(0, f, 1), Math.max(comes[f], f == 3 ? 2 : 0));
        }
        faulty(4, "house;fact;fact;fact;fact;^fact;");
        faulty(4, "house;fact;doing;fact;bond 1;fact;fact kind 1;knows 0 0 1;^fact");
        faulty(2, "house;fact;fact;fact;fact ^fact;");
        reads("house;fact;fact;fact;fact;comes:fact+fact+fact+fact+fact;", 6);
    }

    private static void sixDoings() {
        DUE.says("numbered from 0 on, 6 at most; 4 the first TOKEN of a 7th doing");
        BothKnow x = Due.told("house;fact;doing;doing;doing;doing;doing needs 0 age 2;doing needs 0 age 3;");
        DUE.same("doings", x.count(1), 6);
        DUE.same("doing(4, 10)", x.doing(4, 10), 2);
        DUE.same("doing(5, 10)", x.doing(5, 10), 3);
        DUE.same("doing(6, 10)", x.doing(6, 10), -2);
        DUE.same("does(0)", x.does(0), 15);
        faulty(4, "house;doing;doing;doing;doing;doing;doing;^doing;");
        faulty(4, "house;doing;fact;doing but 0;doing;bond 1;doing;doing;doing;^doing");
        faulty(2, "house;doing;doing;doing;doing;doing;doing ^doing;");
    }

    private static void laterOnesStrike() {
        DUE.says("(0; a later one strikes); of one FACT the later one strikes; Later ones of bond, comes, may strike");
        BothKnow x = Due.told("house;fact kind 9 kind 1;fact;fact kind 9 kind 0;comes:kind;");
        DUE.same("a lesser kind", x.brings(0, 0, 1), 1);
        DUE.same("no kind is 0", x.brings(0, 1, 1), 0);
        DUE.same("kind 0", x.brings(0, 2, 1), 0);
        x = Due.told("house;fact;fact;doing needs 0 age 3 needs 1 age 2 needs 0 age 1;doing needs 0 age 1 but 0 needs 0 age 2;"
            + "doing but 0 needs 0 age 2 but 0;doing but 0 needs 1 age 1;doing needs 1 age 1 but 0;doing but 0 but 0 but 1;");
        DUE.same("the later age", x.doing(0, 10), 1);
        DUE.same("of the other FACT", x.doing(0, 11), 2);
        DUE.same("needs, but, needs: needs", x.doing(1, 0) * 100 + x.doing(1, 1) * 10 + x.doing(1, 10), 102);
        DUE.same("but, needs, but: but", x.doing(2, 0) * 100 + x.doing(2, 1) * 10 + x.doing(2, 10), 10);
        DUE.same("needs of another FACT strikes no but", x.doing(3, 1), 1);
        DUE.same("but of another FACT strikes no needs", x.doing(4, 0), 2);
        DUE.same("but twice", x.doing(5, 1), 3);
        x = Due.told("house;fact;fact;bond 9;bond 0;knows 0 0 3;knows 0 1 2;knows 1 0 1;knows 0 0 0;knows 1 0 2;comes:3;comes:0;may:1=2;may:1=1;");
        DUE.same("a lesser bond", x.count(4), 0);
        DUE.same("knows 0 0", x.age(0, 0), 0);
        DUE.same("knows 0 1 stays", x.age(0, 1), 2);
        DUE.same("knows 1 0", x.age(1, 0), 2);
        DUE.same("the later comes", x.brings(0, 1, 1), 0);
        DUE.same("the later may", x.tell(0, 1), 0);
        DUE.same("no bond: 0", Due.told("house;fact;").count(4), 0);
        DUE.same("a bond that is struck", Due.told("house;bond 3;bond 8;bond 5;").count(4), 5);
        x = Due.told("house;fact;knows 0 0 1;knows 0 0 2;knows 1 0 3;knows 1 0 1;");
        DUE.same("age(0, 0)", x.age(0, 0), 2);
        DUE.same("age(1, 0)", x.age(1, 0), 1);
        faulty(3, "house;bond ^10;bond 1;");
        faulty(2, "house;comes:^;comes:1;");
    }

    private static void manyLawsStrike() {
        DUE.says("Later ones of bond, comes, may strike; it strikes a but ahead");
        BothKnow x = new BothKnow();
        DUE.same("many laws", Due.read(x, "house;fact;" + "comes:0;".repeat(108) + "comes:3;"), 111);
        DUE.same("the last one", x.brings(0, 0, 1), 3);
        DUE.same("many laws may", Due.read(x, "house;fact;" + "may:1=2;".repeat(108) + "may:1=1;"), 111);
        DUE.same("the last one", x.tell(0, 0), 2);
        DUE.same("both by turns", Due.read(x, "house;fact;" + "may:1=2;comes:0;".repeat(53) + "may:2=2;comes:1;"), 110);
        DUE.same("the last ones", x.tell(0, 0), 1);
        DUE.same("many kinds", Due.read(x, "house;fact" + " kind 9".repeat(120) + " kind 1;comes:kind;"), 3);
        DUE.same("the last kind", x.brings(0, 0, 1), 1);
        for (int f = 0; f < 4; f++) {
            x = Due.told("house;fact;fact;fact;fact;doing but 0 but 1 but 2 but 3 needs " + f + " age 2;doing needs 0 age 1 needs 1 age 1 "
                + "needs 2 age 1 needs 3 age 1 but " + f + ";");
            DUE.same("needs strikes but, it alone", x.doing(0, 1), 15 & ~(1 << f));
            DUE.same("and is needed", x.doing(0, 0), 1 << f);
            DUE.same("but strikes needs, it alone", x.doing(1, 0), 15 & ~(1 << f));
            DUE.same("and must not be known", x.doing(1, 1), 1 << f);
            DUE.same("its age", x.doing(1, 10 + f), 0);
        }
    }

    // ---- faults

    private static void firstAlongTheText() {
        DUE.says("FAULTS, the first along the text");
        String four = "house;fact;fact;fact;fact;";
        String[] faults = {"^?", "^nine;", "bond ^10;", "^fact;"};
        for (int first = 0; first < 4; first++) {
            for (int second = 0; second < 4; second++) {
                faulty(first + 1, four + faults[first] + faults[second].replace("^", ""));
                faulty(first + 1, four + "bond 1;" + faults[first] + "bond 1;" + faults[second].replace("^", ""));
            }
        }
        faulty(3, "house;fact;doing needs ^1 ago 0;");
        faulty(2, "house;fact;doing needs 0 ^ago 0;");
        faulty(3, "house;fact;knows ^2 1 4;");
        faulty(3, "house;fact;knows 1 ^1 4;");
        faulty(3, "house;fact;knows 1 0 ^4 4;");
        faulty(4, "house;comes:((((((^((((");
        faulty(4, "house;fact;fact;fact;fact;^fact kind 10?");
    }

    private static void leastKind() {
        DUE.says("of one TOKEN the least kind");
        faulty(1, "house;^1000;");
        faulty(1, "house;bond ^1000;");
        faulty(1, "house;fact;doing needs 0 age ^1000;");
        faulty(1, "house;comes:((((((^?");
        faulty(1, "house;fact;fact;fact;fact;^F");
        faulty(2, "house;^999;");
        faulty(2, "house;fact ^999;");
        faulty(2, "house;fact;knows 0 0 0 ^999;");
        faulty(2, "house;fact;fact;fact;fact kind 0 ^fact;");
        faulty(2, "house;fact;fact;fact;fact;bond ^fact;");
        faulty(2, "house;doing;doing;doing;doing;doing;doing;bond ^doing;");
        faulty(2, "house;comes:((((((^not 1=1");
        faulty(2, "house;comes:((((((^[1=1");
        faulty(2, "house;comes:((((((1 ^(");
        faulty(2, "house;may:[[[[[[1=^not");
        faulty(2, "house;may:[[[[[[1=1^[");
        faulty(2, "house;may:[[[[[[1=1 ^if");
        faulty(3, "house;fact;fact;fact;fact;knows 0 ^4 0;");
    }

    private static void theEnd() {
        DUE.says("2 it can't stand there (the end: the text's length)");
        for (String cut : new String[] {"", "house", "house;fact", "house;fact kind", "house;fact kind 1", "house;doing",
            "house;fact;doing needs", "house;fact;doing needs 0", "house;fact;doing needs 0 age", "house;fact;doing needs 0 age 1",
            "house;fact;doing but", "house;fact;doing but 0", "house;bond", "house;bond 1", "house;fact;knows",
            "house;fact;knows 0", "house;fact;knows 0 0", "house;fact;knows 0 0 0", "house;comes", "house;comes:", "house;comes:1",
            "house;comes:1+", "house;comes:1*", "house;comes:(", "house;comes:(1", "house;comes:(1)", "house;comes:if",
            "house;comes:if 1", "house;comes:if 1=", "house;comes:if 1=1", "house;comes:if 1=1 then", "house;comes:if 1=1 then 1",
            "house;comes:if 1=1 then 1 else", "house;comes:if 1=1 then 1 else 1", "house;comes:if 1=1 then 1 else 1 end",
            "house;may", "house;may:", "house;may:not", "house;may:[", "house;may:[1=1", "house;may:[1=1]", "house;may:1",
            "house;may:1<", "house;may:1>1", "house;may:1=1 and", "house;may:1=1 or", "house;comes:(((((("}) {
            faulty(2, cut, cut.length());
            faulty(2, cut + " ", cut.length() + 1);
            faulty(2, "\n" + cut + " \n ", cut.length() + 4);
        }
    }

    private static void houseFirstAndOnce() {
        DUE.says("house must be told first, and once");
        faulty(2, "^fact;house;");
        faulty(2, "^bond 1;");
        faulty(2, " ^fact;");
        faulty(2, "house;^house;");
        faulty(2, "house ^house;");
        faulty(2, "house;bond 1;^house;");
        faulty(2, "house;fact ^house;");
        faulty(2, "house;bond ^house;");
        faulty(2, "house;comes:^house;");
        faulty(2, "house;fact;^house;?");
    }
}
