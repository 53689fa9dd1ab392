/** Promises 38 to 43 and their terms, an edge at a time: trays, rows in them, images, counts. */
public final class TrayEdgesTest {
    private static final Due DUE = new Due();
    private static final int[] WILD = {Integer.MIN_VALUE, Integer.MIN_VALUE + 1, -1000000, -2, -1,
        1000000, 1 << 16, 1 << 30, Integer.MAX_VALUE};

    public static void main(String[] args) {
        traysAndSorts();
        zeroToFortyNumbers();
        allAre0();
        inPlaceOfAnother();
        theTrayStays();
        missingTrays();
        placesWritten();
        numbersCut();
        writtenAsTheyAreThere();
        listsAsFarAsPlaces();
        listsOfASort();
        listsRefused();
        imagesThereAre();
        imagesAsTheyWere();
        imagesOfHouses();
        nothingUndoneBehind();
        whatIsntInAnImage();
        imagesMadeAnew();
        countsOfAll();
        DUE.end();
    }

    // ---- trays

    private static void traysAndSorts() {
        DUE.says("TRAYS 0 to 3, sort 0 to 3. -2: no such TRAY, sort");
        for (int tray = -2; tray <= 5; tray++) {
            for (int sort = -2; sort <= 5; sort++) {
                BothKnow x = new BothKnow();
                boolean is = tray >= 0 && tray <= 3 && sort >= 0 && sort <= 3;
                DUE.same("numbers(" + tray + ", " + sort + ", 1)", x.numbers(tray, sort, 1), is ? 0 : -2);
                DUE.same("ahead of n -1", x.numbers(tray, sort, -1), is ? -3 : -2);
                DUE.same("ahead of n 41", x.numbers(tray, sort, 41), is ? -3 : -2);
                DUE.same("write", x.write(tray, 0, 1), is ? 1 : tray >= 0 && tray <= 3 ? -6 : -2);
            }
        }
        BothKnow x = new BothKnow();
        for (int wild : WILD) {
            DUE.same("numbers(" + wild + ")", x.numbers(wild, 0, 1), -2);
            DUE.same("numbers of sort " + wild, x.numbers(0, wild, 1), -2);
            DUE.same("write(" + wild + ")", x.write(wild, 0, 1), -2);
        }
    }

    private static void zeroToFortyNumbers() {
        DUE.says("0 to 40 numbers; -3: n is below 0 or above 40; -7 it has no such number");
        for (int sort = 0; sort <= 3; sort++) {
            for (int n = -2; n <= 43; n++) {
                BothKnow x = new BothKnow();
                boolean fine = n >= 0 && n <= 40;
                DUE.same("numbers of " + n, x.numbers(sort, 3 - sort, n), fine ? 0 : -3);
                if (fine) {
                    DUE.same("one behind the last", x.write(sort, n, 7), -7);
                    DUE.same("the last", x.write(sort, n - 1, 7), n > 0 ? 7 : -7);
                    DUE.same("the first", x.write(sort, 0, 7), n > 0 ? 7 : -7);
                    DUE.same("ahead of it", x.write(sort, -1, 7), -7);
                } else {
                    DUE.same("still missing", x.write(sort, 0, 7), -6);
                }
            }
        }
        BothKnow x = new BothKnow();
        for (int wild : WILD) {
            DUE.same("numbers of " + wild, x.numbers(0, 0, wild), -3);
        }
    }

    private static void allAre0() {
        DUE.says("A TRAY has n numbers of a sort, all 0");
        BothKnow x = Due.told("house;fact;doing needs 0 age 1;comes:0;may:twin=0;");
        for (int sort = 0; sort <= 3; sort++) {
            x.numbers(sort, sort, 40);
            DUE.same("forty tellings of 0", x.judge(sort, 0), -1);
            DUE.same("to twin 0", x.judge(sort, 2), 1);
            for (int k = 0; k < 40; k++) {
                x.write(sort, k, 77);
            }
            DUE.same("others", x.judge(sort, 0), 0);
            x.numbers(sort, sort, 40);
            DUE.same("anew", x.judge(sort, 0), -1);
        }
    }

    private static void inPlaceOfAnother() {
        DUE.says("(in place of another one)");
        BothKnow x = Due.told("house;fact;fact;");
        x.numbers(1, 3, 40);
        for (int k = 0; k < 40; k++) {
            x.write(1, k, 1L << 40 | k);
        }
        x.numbers(1, 0, 5);
        DUE.same("five numbers", x.write(1, 5, 1), -7);
        DUE.same("of 8 bits", x.write(1, 4, 300), 44);
        x.write(1, 4, 0);
        DUE.same("all were 0", x.judge(1, 0), -1);
        x.numbers(1, 2, 0);
        DUE.same("none", x.write(1, 0, 1), -7);
        DUE.same("not missing", x.perform(1), 0);
        x.numbers(1, 2, 40);
        DUE.same("forty of 32 bits", x.write(1, 39, 1L << 32 | 5), 5);
        DUE.same("the others are 0", x.judge(1, 0), 39);
        DUE.same("other trays are missing", x.perform(0) + x.perform(2) + x.perform(3), -18);
    }

    private static void theTrayStays() {
        DUE.says("-3, and the TRAY stays");
        BothKnow x = Due.told("house;fact;fact;");
        x.numbers(2, 1, 3);
        x.write(2, 0, 11);
        x.write(2, 2, 300);
        for (int n : new int[] {-1, 41, Integer.MIN_VALUE, Integer.MAX_VALUE}) {
            DUE.same("numbers of " + n, x.numbers(2, 0, n), -3);
            DUE.same("its third number", x.judge(2, 0), 2);
            DUE.same("three numbers", x.write(2, 3, 0), -7);
            DUE.same("of 16 bits", x.write(2, 1, 40000), 40000 - 65536);
            x.write(2, 1, 0);
        }
        DUE.same("no such sort", x.numbers(2, 4, 1), -2);
        DUE.same("its third number", x.judge(2, 0), 2);
        DUE.same("told", x.perform(2), 2);
    }

    private static void missingTrays() {
        DUE.says("TRAYS 0 to 3 are MISSING at first; -6 a TRAY is MISSING");
        BothKnow x = Due.told("house;fact;doing;");
        for (int tray = -1; tray <= 4; tray++) {
            int code = tray >= 0 && tray <= 3 ? -6 : -2;
            DUE.same("judge", x.judge(tray, 0), code);
            DUE.same("perform", x.perform(tray), code);
            DUE.same("told", x.told(tray, 0, 0), code);
            DUE.same("whom", x.whom(tray, 0, 0, 0), code);
            DUE.same("surely", x.surely(tray, 0, 0, 0), code);
            DUE.same("bonds", x.bonds(tray, 0, 0), code);
            DUE.same("attempt", x.attempt(tray, 0, 0), code);
            DUE.same("write", x.write(tray, 0, 0), code);
            DUE.same("lists", x.lists(tray, 0, 0), code);
        }
        for (int wild : WILD) {
            DUE.same("judge", x.judge(wild, 0), -2);
            DUE.same("told", x.told(wild, 0, 0), -2);
            DUE.same("whom", x.whom(wild, 0, 0, 0), -2);
            DUE.same("surely", x.surely(wild, 0, 0, 0), -2);
            DUE.same("bonds", x.bonds(wild, 0, 0), -2);
            DUE.same("attempt", x.attempt(wild, 0, 0), -2);
            DUE.same("lists", x.lists(wild, 0, 0), -2);
        }
    }

    private static void placesWritten() {
        DUE.says("Number i of a TRAY is v; -2: no such TRAY; -6; -7");
        BothKnow x = new BothKnow();
        x.numbers(0, 3, 40);
        for (int i = 0; i < 40; i++) {
            DUE.same("write " + i, x.write(0, i, 1000L * i), 1000L * i);
        }
        DUE.same("write 40", x.write(0, 40, 1), -7);
        for (int wild : WILD) {
            DUE.same("write at " + wild, x.write(0, wild, 1), -7);
            DUE.same("at " + wild + " of a missing one", x.write(1, wild, 1), -6);
            DUE.same("at " + wild + " of none", x.write(4, wild, 1), -2);
        }
        x.numbers(2, 0, 0);
        DUE.same("an empty one", x.write(2, 0, 0), -7);
        // Each place has its own number: all but one are days.
        BothKnow y = Due.told("house;");
        y.numbers(0, 0, 40);
        for (int place = 0; place < 40; place++) {
            for (int k = 0; k < 40; k++) {
                y.write(0, k, k == place ? 5 : -1);
            }
            DUE.same("the place written", y.judge(0, 0), place);
        }
    }

    private static void numbersCut() {
        DUE.says("cut to its sort: as it is there (8 bits, 16, 32, 64)");
        for (int sort = 0; sort <= 3; sort++) {
            BothKnow x = new BothKnow();
            x.numbers(sort, sort, 2);
            int bits = 8 << sort;
            long top = 1L << bits - 1;
            DUE.same("0", x.write(sort, 0, 0), 0);
            DUE.same("-1", x.write(sort, 0, -1), -1);
            DUE.same("the greatest", x.write(sort, 0, top - 1), top - 1);
            DUE.same("one more wraps around", x.write(sort, 1, top), sort == 3 ? Long.MIN_VALUE : -top);
            DUE.same("the least", x.write(sort, 0, -top), sort == 3 ? Long.MIN_VALUE : -top);
            DUE.same("one less wraps around", x.write(sort, 1, -top - 1), top - 1);
            if (sort < 3) {
                DUE.same("all its bits", x.write(sort, 0, 2 * top - 1), -1);
                DUE.same("one bit above them", x.write(sort, 0, 2 * top), 0);
                DUE.same("and one", x.write(sort, 0, 2 * top + 1), 1);
            }
            DUE.same("the greatest long", x.write(sort, 0, Long.MAX_VALUE), sort == 3 ? Long.MAX_VALUE : -1);
            DUE.same("the least long", x.write(sort, 0, Long.MIN_VALUE), sort == 3 ? Long.MIN_VALUE : 0);
        }
    }

    private static void writtenAsTheyAreThere() {
        DUE.says("Number i of a TRAY is v, cut to its sort");
        BothKnow x = Due.told("house;fact;fact;");
        x.numbers(0, 0, 1);
        x.write(0, 0, 257);
        DUE.same("257 is 1 in 8 bits", x.told(0, 0, 0), 2);
        x.write(0, 0, 258);
        DUE.same("258 is 2: no fact", x.told(0, 0, 0), -3);
        x.numbers(0, 1, 1);
        x.write(0, 0, 257);
        DUE.same("257 in 16 bits", x.told(0, 0, 0), -3);
        x.write(0, 0, 65537);
        DUE.same("65537 is 1 in 16 bits", x.told(0, 0, 0), 2);
        x.numbers(0, 2, 1);
        x.write(0, 0, 65537);
        DUE.same("65537 in 32 bits", x.told(0, 0, 0), -3);
        x.write(0, 0, (1L << 32) + 1);
        DUE.same("2 to the 32nd and 1 is 1 in 32 bits", x.told(0, 0, 0), 2);
        x.numbers(0, 3, 1);
        x.write(0, 0, (1L << 32) + 1);
        DUE.same("2 to the 32nd and 1 in 64 bits", x.told(0, 0, 0), -3);
    }

    // ---- rows in trays

    private static void listsAsFarAsPlaces() {
        DUE.says("COMING to a GOAL, as DEEDS (a DAY as NONE), comes into a TRAY, as far as it has places: how many");
        String text = "house;fact;fact;fact;fact;doing needs 0 age 3 needs 1 age 3 needs 2 age 3 needs 3 age 3;doing needs 3 age 1;comes:0;";
        for (int places = 0; places <= 40; places++) {
            BothKnow x = Due.told(text);
            x.numbers(0, 1, places);
            for (int k = 0; k < places; k++) {
                x.write(0, k, 99);
            }
            int listed = Math.min(10, places);
            DUE.same("lists into " + places, x.lists(0, 1, 1), listed);
            DUE.same("behind it as it was", x.judge(0, 0), places > 10 ? 10 : -1);
            DUE.same("why", x.judge(0, 1), places > 10 ? 1 : 0);
            DUE.same("all of them can be", x.perform(0), listed);
            for (int k = 0; k < 8; k++) {
                int deed = k;
                int age = listed <= deed ? 0 : Math.min(3, 1 + Math.max(0, listed - 8));
                DUE.same("age behind " + listed, x.age(k / 4, k % 4), age);
            }
            DUE.same("the goal", x.soonest(1, 1), 10 - listed);
        }
        BothKnow x = Due.told(text);
        x.numbers(3, 0, 5);
        DUE.same("nothing to be done", x.lists(3, 0, 0), 0);
        DUE.same("one", x.lists(3, 2, 0), 1);
        DUE.same("one of the other one", x.lists(3, 0, 2), 1);
        DUE.same("two", x.lists(3, 2, 2), 2);
    }

    private static void listsOfASort() {
        DUE.says("as DEEDS (a DAY as NONE): numbers of each sort");
        for (int sort = 0; sort <= 3; sort++) {
            BothKnow x = Due.told("house;fact;fact;fact;fact;doing needs 3 age 3;comes:0;");
            x.numbers(2, sort, 3);
            DUE.same("lists", x.lists(2, 0, 1), 3);
            DUE.same("13, a day, a day", x.perform(2), 3);
            DUE.same("age(1, 3)", x.age(1, 3), 3);
            DUE.same("age(0, 3)", x.age(0, 3), 0);
            DUE.same("the tray is as it was", x.write(2, 3, 0), -7);
            DUE.same("of its sort", x.write(2, 0, 1L << (8 << Math.min(sort, 2))), sort == 3 ? 1L << 32 : 0);
        }
    }

    private static void listsRefused() {
        DUE.says("-2: the TRAY; -6; -3: a set; -5: there is none");
        BothKnow x = Due.told("house;fact;doing needs 0 age 1;may:1=2;");
        DUE.same("the tray ahead of a set", x.lists(4, 2, 0), -2);
        DUE.same("the tray ahead of none", x.lists(-1, 1, 0), -2);
        DUE.same("missing ahead of a set", x.lists(0, 2, 0), -6);
        DUE.same("missing ahead of none", x.lists(0, 1, 0), -6);
        x.numbers(0, 0, 2);
        x.write(0, 0, -1);
        x.write(0, 1, 5);
        DUE.same("a set", x.lists(0, 2, 0), -3);
        DUE.same("the other set", x.lists(0, 0, 2), -3);
        DUE.same("a set ahead of none", x.lists(0, 1, 2), -3);
        DUE.same("none", x.lists(0, 1, 0), -5);
        DUE.same("the tray stays", x.judge(0, 0), 1);
        x.numbers(1, 0, 0);
        DUE.same("none, without places", x.lists(1, 1, 0), -5);
    }

    // ---- images

    private static void imagesThereAre() {
        DUE.says("IMAGES 0 to 1 (none at first). -2; -5: none was made");
        BothKnow x = new BothKnow();
        for (int i = -2; i <= 4; i++) {
            boolean is = i == 0 || i == 1;
            DUE.same("restore(" + i + ")", x.restore(i), is ? -5 : -2);
        }
        DUE.same("image(1)", x.image(1), 0);
        DUE.same("restore(0)", x.restore(0), -5);
        DUE.same("restore(1)", x.restore(1), 0);
        for (int i = -2; i <= 4; i++) {
            boolean is = i == 0 || i == 1;
            DUE.same("image(" + i + ")", x.image(i), is ? 0 : -2);
            DUE.same("restore(" + i + ")", x.restore(i), is ? 0 : -2);
        }
        for (int wild : WILD) {
            DUE.same("image(" + wild + ")", x.image(wild), -2);
            DUE.same("restore(" + wild + ")", x.restore(wild), -2);
        }
    }

    private static void imagesAsTheyWere() {
        DUE.says("All that is in an IMAGE is as it was: what a call could bring back by UNDOING (AGES, BOND)");
        BothKnow x = Due.told("house;fact;fact;fact;fact;doing needs 1 age 2;knows 0 1 2;knows 1 3 1;bond 6;comes:0;");
        x.image(0);
        x.year(9, 40);
        x.image(1);
        int[] second = new int[9];
        for (int k = 0; k < 9; k++) {
            second[k] = k == 8 ? x.count(4) : x.age(k / 4, k % 4);
        }
        for (int times = 0; times < 3; times++) {
            x.days(9);
            x.bond(1);
            x.tell(0, 0);
            DUE.same("restore(0)", x.restore(0), 0);
            for (int k = 0; k < 8; k++) {
                DUE.same("age in 0", x.age(k / 4, k % 4), k == 1 ? 2 : k == 7 ? 1 : 0);
            }
            DUE.same("bond in 0", x.count(4), 6);
            DUE.same("does", x.does(0), 1);
            x.forget(0, 1);
            x.tell(1, 2);
            DUE.same("restore(1)", x.restore(1), 0);
            for (int k = 0; k < 9; k++) {
                DUE.same("in 1", k == 8 ? x.count(4) : x.age(k / 4, k % 4), second[k]);
            }
        }
    }

    private static void imagesOfHouses() {
        DUE.says("IMAGES: THE HOUSE");
        BothKnow x = new BothKnow();
        x.image(0);
        Due.read(x, "house;fact kind 2;fact;doing needs 0 age 3;doing but 1;bond 4;knows 1 1 3;comes:kind+1;may:twin=0;");
        x.image(1);
        for (int k = 0; k < 7; k++) {
            Due.read(x, "house;fact;fact;fact;doing;doing needs 2 age 1;doing;bond " + k + ";may:fact=" + k % 3 + ";comes:" + k % 4 + ";");
            DUE.same("another house", x.count(0) * 100 + x.count(1) * 10 + x.count(8), 340);
            DUE.same("its law", x.tell(0, k % 3), k % 4);
            x.restore(1);
            DUE.same("facts, doings, lines", x.count(0) * 100 + x.count(1) * 10 + x.count(8), 229);
            DUE.same("its needs", x.doing(0, 10) * 10 + x.doing(1, 1), 32);
            DUE.same("its laws", x.brings(0, 0, 1), 3);
            DUE.same("may", x.tell(1, 0), -13);
            DUE.same("ages and bond", x.age(1, 1) * 10 + x.count(4), 34);
            DUE.same("coming", x.soonest(0, 1), 1);
            x.restore(0);
            DUE.same("no house", x.count(0) + x.count(1) + x.count(4) + x.count(8), 0);
            DUE.same("no facts", x.tell(0, 0), -11);
        }
    }

    private static void nothingUndoneBehind() {
        DUE.says("nothing can be UNDONE behind");
        BothKnow x = Due.told("house;fact;bond 2;");
        x.bond(3);
        x.tell(0, 0);
        DUE.same("image(0)", x.image(0), 0);
        x.days(1);
        DUE.same("restore(0)", x.restore(0), 0);
        DUE.same("count(6)", x.count(6), 0);
        DUE.same("undo(1)", x.undo(1), -3);
        DUE.same("the bond stays", x.count(4), 3);
        x.bond(7);
        DUE.same("what comes behind can be", x.undo(1), 0);
        DUE.same("bond", x.count(4), 3);
        for (int k = 0; k < 12; k++) {
            x.days(1);
        }
        DUE.same("refused, all stays", x.restore(1), -5);
        DUE.same("ten", x.count(6), 10);
    }

    private static void whatIsntInAnImage() {
        DUE.says("IMAGES: THE HOUSE and what a call could bring back by UNDOING");
        BothKnow x = Due.told("house;fact;fact;");
        x.numbers(0, 0, 1);
        x.image(0);
        x.image(1);
        x.write(0, 0, 11);
        x.numbers(1, 0, 2);
        Due.tape(x, "house;bond 8;");
        Due.tape(x, " ");
        x.restore(0);
        DUE.same("a tray stays", x.judge(0, 1), 0);
        DUE.same("told to 1", x.perform(0), 1);
        DUE.same("age(1, 1)", x.age(1, 1), 1);
        DUE.same("another tray stays", x.write(1, 1, 5), 5);
        DUE.same("the tape stays", x.count(7), 40);
        DUE.same("the other image stays", x.restore(1), 0);
        DUE.same("the tape is as it was", x.house(40), 2);
        DUE.same("bond", x.count(4), 8);
    }

    private static void imagesMadeAnew() {
        DUE.says("An IMAGE is made: 0");
        BothKnow x = Due.told("house;fact;bond 1;");
        x.image(0);
        x.bond(2);
        x.image(1);
        x.bond(3);
        DUE.same("in place of the one there was", x.image(0), 0);
        DUE.same("what can be undone stays", x.count(6), 2);
        x.bond(4);
        x.restore(0);
        DUE.same("the later one", x.count(4), 3);
        x.restore(1);
        DUE.same("the other one", x.count(4), 2);
        x.image(0);
        x.restore(0);
        DUE.same("an image of what was restored", x.count(4), 2);
    }

    private static void countsOfAll() {
        DUE.says("0 FACTS, 1 DOINGS, 2, 3, 4 BOND, 5, 6, 7, 8 LINES. NONE for others");
        BothKnow x = Due.told("house;fact;fact;fact;fact;doing;doing needs 0 age 3;doing but 3;doing;doing;doing;bond 9;"
            + "knows 0 0 3;knows 0 1 1;knows 0 2 1;knows 0 3 1;knows 1 3 3;");
        int[] due = {4, 6, 4, 1, 9, 9, 0, 0, 17};
        for (int what = -3; what <= 12; what++) {
            DUE.same("count(" + what + ")", x.count(what), what >= 0 && what <= 8 ? due[what] : -1);
        }
        for (int wild : WILD) {
            DUE.same("count(" + wild + ")", x.count(wild), -1);
        }
        x.forget(0, 3);
        DUE.same("known to 0", x.count(2), 3);
        x.forget(0, 0);
        DUE.same("and one more", x.count(2), 2);
        DUE.same("known to 1", x.count(3), 1);
        x.forget(1, 3);
        DUE.same("known to 1 now", x.count(3), 0);
        // 0: four that need nothing and the one without 3; 1 the same.
        DUE.same("DOINGS both DO", x.count(5), 10);
        DUE.same("calls", x.count(6), 3);
        x.feed(1, 2, 3, 4, 5);
        DUE.same("bytes", x.count(7), 20);
        DUE.same("the constant", BothKnow.NONE, -1);
    }
}
