/** What the project's tests share: texts as calls of write, and answers that are compared. */
final class Calls {
    private int wrong = 0;
    private int compared = 0;

    static void writeText(NeededStop stop, String text) {
        for (int from = 0; from < text.length(); from += 8) {
            int n = Math.min(8, text.length() - from);
            stop.write(packed(text.substring(from, from + n)), n);
        }
    }

    static long packed(String eight) {
        long bytes = 0;
        for (int i = 0; i < eight.length(); i++) {
            bytes |= (long) (eight.charAt(i) & 255) << (8 * i);
        }
        return bytes;
    }

    static NeededStop told(String... texts) {
        NeededStop stop = new NeededStop();
        for (String text : texts) {
            writeText(stop, text);
            if (stop.rail() < 0) {
                throw new IllegalStateException("a test's own text has a fault: " + text);
            }
        }
        return stop;
    }

    void due(String call, int got, int want) {
        compared++;
        if (got != want) {
            wrong++;
            System.out.println(call + " answered " + got + ", due is " + want);
        }
    }

    boolean failed() {
        return wrong != 0;
    }

    void end(String name) {
        System.out.println(name + ": " + compared + " answers, " + wrong + " wrong");
        if (wrong != 0) {
            System.exit(1);
        }
    }
}
