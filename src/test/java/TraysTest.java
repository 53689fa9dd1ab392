/** Promises 38 to 43: trays, rows as deeds in them, images, counts. */
public final class TraysTest {
    private static final Due DUE = new Due();

    public static void main(String[] args) {
        numbers();
        writing();
        lists();
        images();
        imagesOfHouses();
        counts();
        DUE.end();
    }

    private static void numbers() {
        BothKnow x = new BothKnow();
        DUE.same("numbers(4)", x.numbers(4, 0, 1), -2);
        DUE.same("numbers(-1)", x.numbers(-1, 0, 1), -2);
        DUE.same("sort 4 ahead of n", x.numbers(0, 4, 41), -2);
        DUE.same("sort -1", x.numbers(0, -1, 1), -2);
        DUE.same("n 41", x.numbers(0, 0, 41), -3);
        DUE.same("n -1", x.numbers(0, 0, -1), -3);
        DUE.same("still missing", x.write(0, 0, 1), -6);
        for (int tray = 0; tray < 4; tray++) {
            DUE.same("numbers of " + tray, x.numbers(tray, tray, 40 - tray), 0);
            DUE.same("the last of " + tray, x.write(tray, 39 - tray, 5), 5);
            DUE.same("behind it", x.write(tray, 40 - tray, 5), -7);
        }
        x.numbers(1, 2, 3);
        Due.read(x, "house;fact;fact;fact;doing;");
        DUE.same("all are 0", x.told(1, 1, 1), 8);
        x.write(1, 0, 7);
        DUE.same("one isn't", x.told(1, 1, 1), -3);
        DUE.same("a tray that stays", x.numbers(1, 0, 41), -3);
        DUE.same("has its number", x.told(1, 1, 1), -3);
        x.numbers(1, 0, 3);
        DUE.same("in place of another one", x.told(1, 1, 1), 8);
        DUE.same("no numbers", x.numbers(1, 0, 0), 0);
        DUE.same("write none", x.write(1, 0, 0), -7);
    }

    private static void writing() {
        BothKnow x = new BothKnow();
        DUE.same("write(4)", x.write(4, 0, 1), -2);
        DUE.same("write(-1)", x.write(-1, -1, 1), -2);
        DUE.same("write missing", x.write(2, -1, 1), -6);
        for (int sort = 0; sort < 4; sort++) {
            x.numbers(sort, sort, 2);
        }
        DUE.same("i -1", x.write(0, -1, 1), -7);
        DUE.same("i 2", x.write(0, 2, 1), -7);
        long v = 0x1234567890ABCDEFL;
        DUE.same("8 bits", x.write(0, 0, v), (byte) 0xEF);
        DUE.same("16 bits", x.write(1, 0, v), (short) 0xCDEF);
        DUE.same("32 bits", x.write(2, 0, v), 0x90ABCDEF);
        DUE.same("64 bits", x.write(3, 0, v), v);
        DUE.same("127", x.write(0, 1, 127), 127);
        DUE.same("128", x.write(0, 1, 128), -128);
        DUE.same("256", x.write(0, 1, 256), 0);
        DUE.same("32768", x.write(1, 1, 32768), -32768);
        DUE.same("1 << 31", x.write(2, 1, 1L << 31), Integer.MIN_VALUE);
        DUE.same("the least long", x.write(3, 1, Long.MIN_VALUE), Long.MIN_VALUE);
    }

    private static void lists() {
        BothKnow x = Due.told("house;fact;fact;doing needs 0 age 3;doing needs 1 age 1;doing needs 0 age 1 but 0 needs 1 age 3 but 1;comes:0;may:not [twin=1 and fact=1];");
        DUE.same("lists(4)", x.lists(4, 9, 9), -2);
        DUE.same("lists(-1)", x.lists(-1, 0, 0), -2);
        DUE.same("lists missing", x.lists(0, 9, 9), -6);
        x.numbers(0, 0, 6);
        DUE.same("lists first set", x.lists(0, 8, 0), -3);
        DUE.same("lists second set", x.lists(0, 0, -1), -3);
        DUE.same("there is none", x.lists(0, 0, 2), -5);
        for (int k = 0; k < 6; k++) {
            x.write(0, k, 200 - 100);
        }
        DUE.same("lists", x.lists(0, 3, 0), 4);
        DUE.same("what can't be is behind it", x.judge(0, 0), 5);
        // 0, 1, a day, a day, then 100, then 100 again.
        DUE.same("places behind it stay: 100 is done once", x.judge(0, 1), 2);
        x.numbers(0, 3, 2);
        DUE.same("as far as it has places", x.lists(0, 3, 0), 2);
        DUE.same("both are told", x.perform(0), 2);
        DUE.same("age(0, 0)", x.age(0, 0), 1);
        DUE.same("age(0, 1)", x.age(0, 1), 1);
        x.numbers(0, 3, 0);
        DUE.same("no places", x.lists(0, 3, 0), 0);
        x.numbers(0, 1, 3);
        DUE.same("days alone", x.lists(0, 1, 0), 2);
        DUE.same("days are deeds, then 0", x.perform(0), 3);
        DUE.same("there", x.soonest(1, 0), 0);
        DUE.same("nothing to do", x.lists(0, 1, 0), 0);
    }

    private static void images() {
        BothKnow x = Due.told("house;fact;bond 2;knows 0 0 1;");
        DUE.same("image(2)", x.image(2), -2);
        DUE.same("image(-1)", x.image(-1), -2);
        DUE.same("restore(2)", x.restore(2), -2);
        DUE.same("restore(-1)", x.restore(-1), -2);
        DUE.same("restore(0)", x.restore(0), -5);
        x.days(1);
        DUE.same("image(0)", x.image(0), 0);
        DUE.same("an image leaves what can be undone", x.count(6), 1);
        DUE.same("restore(1)", x.restore(1), -5);
        x.bond(7);
        x.forget(0, 0);
        DUE.same("image(1)", x.image(1), 0);
        x.tell(1, 0);
        DUE.same("restore(0)", x.restore(0), 0);
        DUE.same("age", x.age(0, 0), 2);
        DUE.same("the other one's", x.age(1, 0), 0);
        DUE.same("bond", x.count(4), 2);
        DUE.same("nothing can be undone", x.count(6), 0);
        DUE.same("undo", x.undo(1), -3);
        DUE.same("restore(1)", x.restore(1), 0);
        DUE.same("age", x.age(0, 0), 0);
        DUE.same("bond", x.count(4), 7);
        DUE.same("restore(0) again", x.restore(0), 0);
        DUE.same("age again", x.age(0, 0), 2);
    }

    private static void imagesOfHouses() {
        BothKnow x = new BothKnow();
        x.bond(8);
        x.image(0);
        Due.read(x, "house;fact;fact;doing needs 0 age 1;comes:3;may:twin=1;");
        x.tell(1, 0);
        x.image(1);
        Due.tape(x, "0123456789");
        Due.tray(x, 2, 0, 1);
        for (int k = 0; k < 5; k++) {
            DUE.same("another house", Due.read(x, "house;fact;fact;fact;doing;doing;comes:1;"), -31 + (k > 0 ? 38 : 0));
        }
        Due.tape(x, "0123456789");
        DUE.same("restore(1)", x.restore(1), 0);
        DUE.same("facts", x.count(0), 2);
        DUE.same("doings", x.count(1), 1);
        DUE.same("lines", x.count(8), 6);
        DUE.same("ages", x.age(0, 0), 3);
        DUE.same("law may", x.tell(0, 1), -13);
        DUE.same("law comes", x.tell(1, 1), 3);
        DUE.same("the tape stays", x.count(7), 20);
        DUE.same("trays stay", x.judge(2, 1), 3);
        DUE.same("the fault stays", x.fault(0), 0);
        DUE.same("restore(0)", x.restore(0), 0);
        DUE.same("no facts", x.count(0) + x.count(1) + x.count(8), 0);
        DUE.same("bond", x.count(4), 8);
        DUE.same("restore(1) again", x.restore(1), 0);
        DUE.same("as it was when it was made", x.count(3), 1);
    }

    private static void counts() {
        BothKnow x = Due.told("house;fact;fact;fact;doing needs 0 age 1;doing;bond 7;knows 0 0 1;knows 0 2 3;knows 1 1 2;");
        int[] want = {3, 2, 2, 1, 7, 3, 0, 0, 10};
        for (int what = 0; what < want.length; what++) {
            DUE.same("count(" + what + ")", x.count(what), want[what]);
        }
        x.feed(0, 0, 0, 0, 0);
        DUE.same("tape", x.count(7), 20);
        x.days(1);
        DUE.same("undoable", x.count(6), 1);
        DUE.same("count(9)", x.count(9), -1);
        DUE.same("count(-1)", x.count(-1), -1);
        DUE.same("NONE", BothKnow.NONE, -1);
    }
}
