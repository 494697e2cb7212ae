// No call throws for any arguments in any state, and so not after the 512th call either, where the document leaves the
// answers free: they are not looked at here.
public final class NeverThrowsTest {
    private static final int OBJECTS = 20;
    private static final int CALLS = 20000;
    private static final int[] ODD = {Integer.MIN_VALUE, Integer.MIN_VALUE + 1, -4000000, -2000000, -1000000, -32768,
            -256, -51, -50, -1, 0, 1, 2, 3, 4, 5, 6, 7, 8, 39, 40, 41, 50, 51, 119, 120, 200, 201, 256, 32767, 32768, 65536,
            Integer.MAX_VALUE - 1, Integer.MAX_VALUE};

    private static int wrong = 0;
    private static long state = 20261116L;

    // A fixed sequence, so that every run of this test makes the same calls.
    private static int next(int bound) {
        state = state * 6364136223846793005L + 1442695040888963407L;
        return (int) ((state >>> 33) % bound);
    }

    private static int argument(int high) {
        return next(3) == 0 ? ODD[next(ODD.length)] : next(high + 1);
    }

    // More of add or of remove, in turns, so that the objects are full and empty again and again.
    private static int call(int n) {
        int choice = next(20);
        return choice < 14 ? choice : n / 500 % 2;
    }

    private static void make(CubeViews x, int call, int a, int b) {
        switch (call) {
            case 0: x.add(a % 120, b % 51); break;
            case 1: x.remove(); break;
            case 2: x.add(a, b); break;
            case 3: x.change(a, b); break;
            case 4: x.count(a); break;
            case 5: x.sum(a); break;
            case 6: x.greatest(a); break;
            case 7: x.groups(b, a); break;
            case 8: x.topSum(b, a); break;
            case 9: x.topGroup(b, a); break;
            case 10: x.quarter(b, a); break;
            case 11: x.growth(b); break;
            case 12: x.atLeast(b, a); break;
            default: x.plan(a); x.facts(); break;
        }
    }

    public static void main(String[] args) {
        for (int object = 0; object < OBJECTS; object++) {
            CubeViews x = new CubeViews();
            for (int n = 1; n <= CALLS; n++) {
                int call = call(n);
                int a = argument(call >= 4 && call <= 9 ? 32767 : 119);
                int b = argument(7);
                try {
                    make(x, call, a, b);
                } catch (Throwable thrown) {
                    wrong++;
                    if (wrong <= 20) {
                        System.out.println("object " + object + ", call " + n + ": case " + call + " with " + a + " and " + b
                                + " threw " + thrown);
                    }
                }
            }
        }
        System.out.println(wrong == 0 ? "no call threw" : wrong + " calls threw");
        if (wrong != 0) {
            System.exit(1);
        }
    }
}
