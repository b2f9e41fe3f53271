/** Counts and prints the answers that are not as due. */
final class Due {
    private static int wrong = 0;
    private static int asked = 0;

    private Due() {
    }

    static void is(String call, long got, long want) {
        asked++;
        if (got != want) {
            wrong++;
            System.out.println(call + " answered " + got + ", due is " + want);
        }
    }

    static void close() {
        System.out.println(asked + " answers, " + wrong + " not as due");
        if (wrong != 0) {
            System.exit(1);
        }
    }

    static void feed(HamperByWeather x, String text) {
        for (int i = 0; i < text.length(); i++) {
            x.feed(text.charAt(i));
        }
    }

    /** A new object with what the text tells. */
    static HamperByWeather hall(String text) {
        HamperByWeather x = new HamperByWeather();
        feed(x, text);
        int answer = x.hall();
        is("hall of " + text, answer, text.chars().filter(c -> c == ';').count());
        return x;
    }
}
