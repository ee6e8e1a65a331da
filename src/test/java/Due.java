/** Counts the answers that are not the ones that are due, and ends the program with 1 if there are any. */
final class Due {
    private static int asked = 0;
    private static int wrong = 0;
    private static String about = "";

    private Due() {}

    /** What the questions from here on are about, said ahead of each answer that is not the one that is due. */
    static void about(String words) {
        about = words;
    }

    static void is(String call, long got, long want) {
        asked++;
        if (got != want) {
            wrong++;
            System.out.println(about + call + " answered " + got + ", due is " + want);
        }
    }

    static int asked() {
        return asked;
    }

    static int wrong() {
        return wrong;
    }

    static void end() {
        System.out.println(wrong == 0 ? "all " + asked + " answers are as due" : wrong + " of " + asked + " answers are not as due");
        if (asked == 0 || wrong != 0) {
            System.exit(1);
        }
    }

    /** The text of at most 8 characters as the number that put takes. */
    static long packed(String text) {
        long number = 0;
        for (int place = 0; place < text.length(); place++) {
            number = number << 8 | text.charAt(place);
        }
        return number;
    }

    /** Puts a text of any length, eight characters a call, and returns the last call's answer. */
    static int putAll(PartingRoads roads, String text) {
        int answer = 0;
        for (int place = 0; place < text.length(); place += 8) {
            answer = roads.put(packed(text.substring(place, Math.min(place + 8, text.length()))));
        }
        return answer;
    }
}
