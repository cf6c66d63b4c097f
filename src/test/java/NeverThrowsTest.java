/** No call throws, whatever the arguments and however many calls there were before. */
public final class NeverThrowsTest {
    private static final Checks CHECKS = new Checks("NeverThrowsTest");
    private static final int CALLS = 300_000;
    private static final int[] ODD = {Integer.MIN_VALUE, -1000, -2, -1, 0, 1, 2, 3, 4, 5, 6, 7, 8,
        15, 16, 31, 32, 63, 64, 65, 1000, Integer.MAX_VALUE};

    private static long state = 1;

    public static void main(String[] args) {
        SerialDesk desk = new SerialDesk();
        int thrown = 0;
        for (int i = 0; i < CALLS; i++) {
            try {
                call(desk);
            } catch (RuntimeException | StackOverflowError e) {
                thrown++;
                e.printStackTrace(System.out);
            }
            if (desk.count(0) > 64 || thrown > 5) {
                break;
            }
        }
        CHECKS.due("thrown", thrown, 0);
        CHECKS.due("at most 64 are kept", desk.count(0) <= 64, true);
        CHECKS.due("some began", desk.count(1) > 512, true);
        CHECKS.end();
    }

    private static int pick(int below) {
        state = state * 6364136223846793005L + 1442695040888963407L;
        return (int) ((state >>> 33) % below);
    }

    private static int odd() {
        return ODD[pick(ODD.length)];
    }

    private static long oddLong() {
        return pick(3) == 0 ? Long.MIN_VALUE + pick(2) : pick(2) == 0 ? Long.MAX_VALUE : odd();
    }

    private static void call(SerialDesk desk) {
        int s = pick(3) == 0 ? odd() : pick(6);
        int id = pick(3) == 0 ? odd() : desk.count(1) - pick(70);
        switch (pick(13)) {
            case 0: desk.begin(s); break;
            case 1: desk.read(s, odd(), odd(), oddLong(), oddLong(), odd()); break;
            case 2: desk.cell(odd(), oddLong()); break;
            case 3: desk.clear(); break;
            case 4: desk.write(s, odd()); break;
            case 5: desk.miss(s, id); break;
            case 6: desk.commit(s); break;
            case 7: desk.abort(s); break;
            case 8: if (pick(20) == 0) desk.doom(s); break;
            case 9: desk.look(id, odd()); break;
            case 10: desk.arrow(id, desk.count(1) - pick(70)); break;
            case 11: desk.rings(); break;
            default: desk.count(odd()); break;
        }
    }
}
