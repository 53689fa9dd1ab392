import java.util.Random;

/** Houses of four facts and six doings, rows of twelve: what runs by draws ask too seldom, since the oracle is slow there. */
public final class GreatHousesTest {
    private static final Due DUE = new Due();
    private static final String[] COMES = {"", "comes:bond-known;", "comes:if kind=1 then 0 else theirs+1 end;",
        "comes:known*2-fact;", "comes:0;", "comes:1;"};
    private static final String[] MAY = {"", "may:known<3;", "may:not[twin=0 and theirs>2];", "may:fact+twin<4 or known>1;"};

    private final Random random;
    private final BothKnow x = new BothKnow();
    private final Oracle oracle = new Oracle();
    private final int d;

    private GreatHousesTest(long seed) {
        random = new Random(seed);
        d = random.nextInt(6);
    }

    /** How many houses; the seeds are fixed. */
    public static void main(String[] args) {
        int houses = args.length > 0 ? Integer.parseInt(args[0]) : 6;
        for (int k = 0; k < houses; k++) {
            GreatHousesTest one = new GreatHousesTest(5 + k);
            String text = one.houseText(COMES[k % 6], MAY[k % 4]);
            DUE.says(text);
            one.read(text);
            one.rows(1 << one.random.nextInt(6), 1 << one.random.nextInt(6));
            one.ofTwin(0);
            one.ofTwin(1);
        }
        DUE.end();
    }

    private String houseText(String comes, String may) {
        StringBuilder t = new StringBuilder("house;fact kind 1;fact;fact kind 1;fact kind 2;");
        for (int k = 0; k < 6; k++) {
            t.append("doing");
            for (int n = random.nextInt(3); n >= 0; n--) {
                int fact = random.nextInt(4);
                t.append(random.nextInt(4) == 0 ? " but " + fact : " needs " + fact + " age " + (1 + random.nextInt(3)));
            }
            t.append(';');
        }
        return t.append("bond ").append(random.nextInt(10)).append(";knows 1 2 ").append(random.nextInt(4)).append(';')
            .append(comes).append(may).toString();
    }

    private void read(String text) {
        for (int k = 0; k < text.length(); k += 20) {
            int[] words = new int[5];
            for (int b = 0; b < 20; b++) {
                int c = k + b < text.length() ? text.charAt(k + b) : ' ';
                words[b / 4] |= (c & 255) << 24 - 8 * (b % 4);
            }
            DUE.same("feed", x.feed(words[0], words[1], words[2], words[3], words[4]), oracle.feed(words));
        }
        DUE.same("house", x.house(text.length()), oracle.house(text.length()));
        DUE.same("facts", x.count(0), 4);
    }

    private void rows(int first, int second) {
        DUE.same("rows of 12", x.rows(first, second, 12), oracle.rows(first, second, 12));
        DUE.same("all rows of 12", x.rows(0, 0, 12), oracle.rows(0, 0, 12));
        DUE.same("soonest", x.soonest(first, second), oracle.soonest(first, second));
        for (int i = 0; i <= Math.max(0, x.soonest(first, second)); i++) {
            DUE.same("way " + i, x.way(first, second, i), oracle.way(first, second, i));
        }
        DUE.same("needed", x.needed(first, second), oracle.needed(first, second));
        DUE.same("tellings", x.tellings(first, second), oracle.tellings(first, second));
        DUE.same("stands", x.stands(), oracle.stands());
        DUE.same("most", x.most(), oracle.most());
    }

    private void ofTwin(int twin) {
        DUE.same("can", x.can(twin), oracle.can(twin));
        DUE.same("overhears", x.overhears(twin), oracle.overhears(twin));
        DUE.same("alone", x.alone(twin, d), oracle.alone(twin, d));
        for (int i = 0; i <= Math.max(0, x.alone(twin, d)); i++) {
            DUE.same("aloneWay " + i, x.aloneWay(twin, d, i), oracle.aloneWay(twin, d, i));
        }
        DUE.same("forces", x.forces(twin, d), oracle.forces(twin, d));
        DUE.same("best", x.best(twin, d), oracle.best(twin, d));
        DUE.same("chance above", x.chance(twin, d, 4, 0), oracle.chance(twin, d, 4, 0));
        DUE.same("chance below", x.chance(twin, d, 4, 1), oracle.chance(twin, d, 4, 1));
        DUE.same("likeliest", x.likeliest(twin, 4), oracle.likeliest(twin, 4));
    }
}
