/** The boundaries of texts, and of promises 17 to 19. */
final class PadBoundaries {
    private static final String TERMS = "Terms";
    private static final String DIGITS = "0123456789";

    private PadBoundaries() {}

    static void all() {
        longestPad();
        rows();
        squareNumbers();
        lengthNumbers();
        leadingZeros();
        firstThatCannotStand();
        tooGreatDigits();
        townDoesNotMatter();
        endsTooEarly();
        howManyCharacters();
        orderOfCharacters();
        noMoreCharacters();
        putBadValue();
        putTooMany();
        wipe();
        noFault();
    }

    private static PartingRoads holding(String text) {
        PartingRoads x = new PartingRoads();
        Due.is("put '" + text + "'", Due.putAll(x, text), text.length());
        return x;
    }

    private static void faultIs(String text, int due) {
        Due.is("fault() of '" + text + "'", holding(text).fault(), due);
    }

    private static void longestPad() {
        Sentences.says(TERMS, "The pad is a text of at most 80 characters, a row of roads");
        PartingRoads x = new PartingRoads();
        for (int length = 1; length <= 80; length++) {
            Due.is("put, character " + length, x.put("0-1:1;".charAt((length - 1) % 6)), length);
            Due.is("count(8)", x.count(8), length);
        }
        Due.is("an 81st", x.put('1'), PartingRoads.TOO_MANY);
        Due.is("80 characters stay", x.count(8), 80);
        Due.is("the last road is not whole", x.fault(), 80);
        Due.is("wipe", x.wipe(), 80);
        for (int part = 1; part <= 10; part++) {
            Due.is("put eight", x.put(Due.packed("0-1:10;;")), 8 * part);
        }
        Due.is("the first fault of 80 characters", x.fault(), 7);
    }

    private static void rows() {
        Sentences.says(TERMS, "text = road { \";\" road }; road = square \"-\" square \":\" length");
        for (int roads = 1; roads <= 13; roads++) {
            String text = "0-1:1;".repeat(roads - 1) + "0-1:1";
            faultIs(text, PartingRoads.NONE);
            faultIs(text + ";", 6 * roads);
            if (roads < 13) {
                faultIs(text + ";;", 6 * roads);
                faultIs(";" + text, 0);
            }
        }
        faultIs("15-14:99;14-13:98;13-12:97;12-11:96;11-10:5;10-9:9;9-8:8;8-7:7;7-6:6;6-5:5;5-4:4", PartingRoads.NONE);
    }

    private static void squareNumbers() {
        Sentences.says(TERMS, "a square is a number from 0 to 15");
        for (int square = 0; square < 16; square++) {
            int digits = square < 10 ? 1 : 2;
            faultIs(square + "-1:1", PartingRoads.NONE);
            faultIs("1-" + square + ":1", PartingRoads.NONE);
            faultIs("0-1:1;" + square + "-1:1", PartingRoads.NONE);
            faultIs(square + "", digits);
            faultIs("1-" + square, 2 + digits);
        }
        for (int square = 16; square < 100; square++) {
            faultIs(square + "-1:1", 1);
            faultIs("1-" + square + ":1", 3);
            faultIs("0-1:1;" + square + "-1:1", 7);
            faultIs("0-1:1;0-" + square + ":1", 9);
        }
    }

    private static void lengthNumbers() {
        Sentences.says(TERMS, "a length one from 1 to 99");
        for (int length = 1; length < 100; length++) {
            faultIs("0-1:" + length, PartingRoads.NONE);
            faultIs("0-1:" + length + ";0-1:" + length, PartingRoads.NONE);
        }
        faultIs("0-1:0", 4);
        faultIs("0-1:0;0-1:1", 4);
        faultIs("0-1:1;10-15:0", 12);
        for (int length = 100; length < 1000; length += 49) {
            faultIs("0-1:" + length, 6);
        }
    }

    private static void leadingZeros() {
        Sentences.says(TERMS, "all without leading zeros");
        for (int digit = 0; digit < 10; digit++) {
            faultIs("0" + digit + "-1:1", 1);
            faultIs("1-0" + digit + ":1", 3);
            faultIs("0-1:0" + digit, 4);
            faultIs("0-1:1;0" + digit + "-1:1", 7);
        }
        faultIs("0-0:1", PartingRoads.NONE);
        faultIs("10-10:10", PartingRoads.NONE);
    }

    private static void firstThatCannotStand() {
        Sentences.says(TERMS, "The fault is the index of the first character that cannot stand at its place when the text is read from left to right");
        String[][] next = {{"", DIGITS}, {"0", "-"}, {"1", "-012345"}, {"2", "-"}, {"9", "-"}, {"10", "-"}, {"15", "-"}, {"0-", DIGITS}, {"0-0", ":"},
            {"0-1", ":012345"}, {"0-2", ":"}, {"0-9", ":"}, {"0-10", ":"}, {"0-15", ":"}, {"0-1:", "123456789"}, {"0-1:1", DIGITS + ";"},
            {"0-1:9", DIGITS + ";"}, {"0-1:10", ";"}, {"0-1:99", ";"}, {"0-1:1;", DIGITS}, {"0-1:99;1", "-012345"}, {"0-1:99;15-0:9", DIGITS + ";"}};
        for (String[] row : next) {
            for (char character = 33; character <= 126; character++) {
                boolean stands = row[1].indexOf(character) >= 0;
                String text = row[0] + character;
                int due = !stands ? row[0].length() : text.matches("(.*;)?\\d+-\\d+:\\d+") ? PartingRoads.NONE : text.length();
                faultIs(text, due);
                if (!stands) {
                    faultIs(text + character, row[0].length());
                    faultIs(text + "0-1:1", row[0].length());
                }
            }
        }
    }

    private static void tooGreatDigits() {
        Sentences.says(TERMS, "also of a digit by which a number would be too great");
        faultIs("15-15:99", PartingRoads.NONE);
        faultIs("16-15:99", 1);
        faultIs("15-16:99", 4);
        faultIs("150-1:9", 2);
        faultIs("15-150:9", 5);
        faultIs("15-15:990", 8);
        faultIs("15-15:100", 8);
        faultIs("99999999", 1);
        faultIs("0-99999999:1", 3);
        faultIs("0-1:99999999", 6);
        // Numbers that would be a square or a length again if an int or a long wrapped around.
        faultIs("4294967296-1:1", 1);
        faultIs("1-4294967297:1", 3);
        faultIs("0-1:4294967297", 6);
        faultIs("0-1:18446744073709551617", 6);
        faultIs("0-1:" + "9".repeat(76), 6);
        faultIs("1".repeat(80), 2);
        faultIs("0".repeat(80), 1);
    }

    private static void townDoesNotMatter() {
        Sentences.says(TERMS, "SQUARES, and whether both squares are the same, do not matter");
        PartingRoads x = Towns.empty(2);
        Due.putAll(x, "15-14:1;3-3:1;2-2:99");
        Due.is("of two squares", x.fault(), PartingRoads.NONE);
        Due.is("it can't be read all the same", x.read(), PartingRoads.NO_SUCH);
        PartingRoads full = Towns.manyRoads(30, 1);
        Due.putAll(full, "0-1:1");
        Due.is("of 30 roads", full.fault(), PartingRoads.NONE);
        Due.is("it can't be read for all that", full.read(), PartingRoads.TOO_MANY);
        for (int square = 0; square < 16; square++) {
            faultIs(square + "-" + square + ":1", PartingRoads.NONE);
        }
    }

    private static void endsTooEarly() {
        Sentences.says(TERMS, "if there is none and the text ends too early (also if it is empty), it is the length of the text");
        Due.is("no text", new PartingRoads().fault(), 0);
        PartingRoads wiped = holding("0-1:1");
        wiped.wipe();
        Due.is("a text that was wiped", wiped.fault(), 0);
        PartingRoads wasRead = holding("0-1:1");
        wasRead.read();
        Due.is("a text that was read", wasRead.fault(), 0);
        String text = "10-15:10;1-0:9";
        for (int length = 1; length <= text.length(); length++) {
            boolean whole = length == 7 || length == 8 || length == 14;
            faultIs(text.substring(0, length), whole ? PartingRoads.NONE : length);
        }
        faultIs("0-1:10;".repeat(11) + "0-1", 80);
        faultIs("0-1:1;".repeat(13) + "1-", 80);
        faultIs("0-1:1;".repeat(12) + "10-1:10;", 80);
    }

    private static void howManyCharacters() {
        Sentences.says(17, "`characters`: 1 to 8 characters");
        String text = "0-1:1;0-";
        for (int many = 1; many <= 8; many++) {
            PartingRoads x = new PartingRoads();
            Due.is("put " + many, x.put(Due.packed(text.substring(0, many))), many);
            Due.is("put " + many + " more of the least code", x.put(Due.packed("!".repeat(many))), 2 * many);
            Due.is("put " + many + " more of the greatest code", x.put(Due.packed("~".repeat(many))), 3 * many);
            Due.is("the first ones stand, but for a cut", x.fault(), many);
        }
        Due.is("put none", new PartingRoads().put(0), PartingRoads.BAD_VALUE);
    }

    private static void orderOfCharacters() {
        Sentences.says(17, "its lowest 8 bits are the last character, the next 8 bits the one before, and so on");
        PartingRoads x = Towns.empty(16);
        Due.is("eight", x.put(0x31302d31353a3437L), 8);
        Due.is("read", x.read(), 1);
        Due.is("the lower square", x.road(0, 0), 10);
        Due.is("the higher square", x.road(0, 1), 15);
        Due.is("the length", x.road(0, 2), 47);
        Due.is("one, the lowest bits alone", x.put(0x32), 1);
        Due.is("two", x.put(0x2d33), 3);
        Due.is("three", x.put(0x3a3132), 6);
        Due.is("all of them without a fault", x.fault(), PartingRoads.NONE);
        x.wipe();
        Due.is("two, then three", x.put(0x322d), 2);
        Due.is("three behind them", x.put(0x333a35), 5);
        Due.is("read both", x.read(), 2);
        Due.is("the lower square of both", x.road(1, 0), 2);
        Due.is("the higher square of both", x.road(1, 1), 3);
    }

    private static void noMoreCharacters() {
        Sentences.says(17, "8 bits that are 0 mean that there are no more characters, and everything above them has to be 0, too");
        PartingRoads x = new PartingRoads();
        for (int zero = 0; zero < 7; zero++) {
            long below = 0;
            for (int place = 0; place < zero; place++) {
                below |= 0x30L << 8 * place;
            }
            for (int bit = 8 * zero + 8; bit < 64; bit++) {
                Due.is(zero + " characters, bit " + bit, x.put(below | 1L << bit), PartingRoads.BAD_VALUE);
            }
        }
        Due.is("no characters", x.count(8), 0);
        for (int many = 1; many <= 8; many++) {
            Due.is(many + " characters, nothing above", x.put(Due.packed("0".repeat(many))), many);
            x.wipe();
        }
    }

    private static void putBadValue() {
        Sentences.says(17, "BAD_VALUE if there is no character, a code is not 33 to 126, or a bit above 8 bits that are 0 is not 0");
        for (int many = 1; many <= 8; many++) {
            for (int place = 0; place < many; place++) {
                PartingRoads x = new PartingRoads();
                for (int code = 1; code < 256; code++) {
                    long characters = Due.packed("A".repeat(many)) & ~(255L << 8 * place) | (long) code << 8 * place;
                    boolean fits = code >= 33 && code <= 126;
                    Due.is("put(" + characters + ")", x.put(characters), fits ? many : PartingRoads.BAD_VALUE);
                    if (fits) {
                        x.wipe();
                    }
                }
                Due.is("nothing stays", x.count(8), 0);
            }
        }
        PartingRoads x = new PartingRoads();
        for (long wrong : new long[] {0, -1, Long.MIN_VALUE, Long.MAX_VALUE, Long.MIN_VALUE | 0x30, 0x100000030L, 0x8000000000000030L, 1L << 32, 48L << 32}) {
            Due.is("put(" + wrong + ")", x.put(wrong), PartingRoads.BAD_VALUE);
        }
    }

    private static void putTooMany() {
        Sentences.says(17, "TOO_MANY if the pad would be longer than 80");
        for (int many = 1; many <= 8; many++) {
            PartingRoads x = holding("0".repeat(80 - many));
            for (int more = 8; more > many; more--) {
                Due.is("room for " + many + ", put " + more, x.put(Due.packed("1".repeat(more))), PartingRoads.TOO_MANY);
            }
            Due.is("nothing is put", x.count(8), 80 - many);
            Due.is("room for " + many + ", put as many", x.put(Due.packed("1".repeat(many))), 80);
            for (int more = 1; more <= 8; more++) {
                Due.is("no room, put " + more, x.put(Due.packed("1".repeat(more))), PartingRoads.TOO_MANY);
            }
            Due.is("no room, put none", x.put(0), PartingRoads.BAD_VALUE);
            Due.is("no room, put a wrong one", x.put(127), PartingRoads.BAD_VALUE);
            x.wipe();
            Due.is("room again", x.put('0'), 1);
        }
    }

    private static void wipe() {
        Sentences.says(18, "Empties the pad, and returns the length that it had.");
        PartingRoads x = new PartingRoads();
        Due.is("empty from the start", x.wipe(), 0);
        for (int length = 1; length <= 80; length += 79) {
            Due.putAll(x, "0".repeat(length));
            Due.is("of " + length, x.wipe(), length);
            Due.is("empty then", x.count(8), 0);
            Due.is("empty already", x.wipe(), 0);
        }
        Due.putAll(x, "0-1:1");
        x.read();
        Due.is("after it was read", x.wipe(), 0);
        Due.is("it is no change", x.count(9), 1);
        Due.is("the roads stay", x.count(1), 1);
        Due.is("nothing was left behind", Due.putAll(x, "1-2:3"), 5);
        Due.is("the new text is read by itself", x.read(), 2);
        Due.is("its length", x.road(1, 2), 3);
    }

    private static void noFault() {
        Sentences.says(19, "NONE if there is none");
        PartingRoads x = holding("0-1:1");
        Due.is("a whole road", x.fault(), PartingRoads.NONE);
        Due.is("a whole road again", x.fault(), PartingRoads.NONE);
        x.put('2');
        Due.is("a longer length", x.fault(), PartingRoads.NONE);
        x.put('3');
        Due.is("too long a length", x.fault(), 6);
        x.put(';');
        Due.is("still the first fault", x.fault(), 6);
        x.wipe();
        Due.is("no text any more", x.fault(), 0);
        Due.is("a full pad", Due.putAll(x, "0-1:1;".repeat(12) + "15-14:99"), 80);
        Due.is("a full pad's fault", x.fault(), PartingRoads.NONE);
    }
}
