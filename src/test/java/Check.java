import java.util.function.Consumer;

/**
 * Runs the tests of single sentences of the document, and counts and prints the answers that are
 * not as due. Every test ends with end().
 */
final class Check {
    private static int asked = 0;
    private static int wrong = 0;
    private static String place = "";

    private Check() {
    }

    /** What a test does that needs more than one unit of the same lanes and delay. */
    interface Sizes {
        void test(int lanes, int delay);
    }

    /** Tests one sentence, for every number of lanes and every delay. */
    static void onEachSize(String sentence, Sizes sizes) {
        once(sentence, () -> {
            for (int lanes = 1; lanes <= 4; lanes++) {
                for (int delay = 1; delay <= 5; delay++) {
                    place = "lanes " + lanes + ", delay " + delay + ": ";
                    sizes.test(lanes, delay);
                }
            }
        });
    }

    /** Tests one sentence, on a new unit for every number of lanes and every delay. */
    static void onEach(String sentence, Consumer<ChainedVectorUnit> test) {
        onEachSize(sentence, (lanes, delay) -> test.accept(new ChainedVectorUnit(lanes, delay)));
    }

    /** Tests one sentence with units that the test makes itself. */
    static void once(String sentence, Runnable test) {
        int askedBefore = asked;
        int wrongBefore = wrong;
        place = "";
        try {
            test.run();
        } catch (RuntimeException thrown) {
            // No call may ever throw, so this is a wrong answer like any other.
            wrong++;
            System.out.println(place + "a call threw " + thrown);
        }
        if (asked == askedBefore) {
            wrong++;
            System.out.println("nothing was asked");
        }
        System.out.println((wrong == wrongBefore ? "holds:  " : "BROKEN: ") + sentence);
    }

    static void due(String call, long got, long want) {
        asked++;
        if (got != want) {
            wrong++;
            System.out.println(place + call + " answered " + got + ", due is " + want);
        }
    }

    static void due(String call, boolean got, boolean want) {
        due(call, got ? 1 : 0, want ? 1 : 0);
    }

    static void end() {
        System.out.println(asked + " answers, " + wrong + " not as due");
        if (wrong != 0) {
            System.exit(1);
        }
    }
}
