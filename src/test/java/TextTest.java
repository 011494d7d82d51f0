/** The text, a new object, type, wipe and length: promises 1 to 4, sentence by sentence. */
public final class TextTest {
    // 200 characters, each of which is needed: no longer text can be typed, no program has more instructions.
    private static final String FULL = "{!-" + "b+".repeat(97) + "b;}";

    private static void atMost200() {
        for (int there = 190; there <= 200; there++) {
            for (int more = 0; more <= 8; more++) {
                Subject x = Check.typed("a".repeat(there));
                boolean fits = there + more <= 200;
                Check.due(there + " and " + more + " more", x.type(Check.pack("a".repeat(more))), fits);
                Check.due("length then", x.length(), fits ? there + more : there);
            }
        }
    }

    private static void fullTextIsCompiledWhole() {
        Check.due("characters", FULL.length(), 200);
        Subject x = Check.typed(FULL);
        Check.due("length", x.length(), 200);
        Check.dueText("compile", Check.answerOf(x::compile), "198");
        Check.due("length then", x.length(), 0);
        Subject y = Check.typed(FULL.substring(0, 199));
        Check.dueText("compile without the last character", Check.answerOf(y::compile), Check.NO_TEXT_OF_A_PROGRAM);
        Check.due("the last character", y.type('}'), true);
        Check.dueText("compile with it", Check.answerOf(y::compile), "198");
    }

    private static void from33To126() {
        for (int place = 0; place < 8; place++) {
            for (int letter = 1; letter < 256; letter++) {
                long part = 0x6161616161616161L & ~(255L << 8 * place) | (long) letter << 8 * place;
                Subject x = new Subject();
                boolean fits = letter >= 33 && letter <= 126;
                Check.due("type byte " + letter + " as number " + place, x.type(part), fits);
                Check.due("length then", x.length(), fits ? 8 : 0);
            }
        }
    }

    private static void emptyAtFirst() {
        Subject x = new Subject();
        Check.due("length()", x.length(), 0);
        Check.dueThrow("compile()", Check.NO_TEXT_OF_A_PROGRAM, x::compile);
        Check.due("length() then", x.length(), 0);
    }

    private static void noProgramAtFirst() {
        Subject x = new Subject();
        Check.dueThrow("code(0, 0)", Check.NO_PROGRAM, () -> x.code(0, 0));
        Check.dueThrow("time()", Check.NO_PROGRAM, x::time);
        Check.dueThrow("depth()", Check.NO_PROGRAM, x::depth);
        Check.dueThrow("procedure(0, 0)", Check.NO_PROGRAM, () -> x.procedure(0, 0));
        Check.dueThrow("run()", Check.NO_PROGRAM, x::run);
        Check.dueThrow("output(0)", Check.NO_SUCH, () -> x.output(0));
        for (int w = -1; w <= 4; w++) {
            Check.due("latest(" + w + ")", x.latest(w), -1);
        }
    }

    private static void placesAre0AtFirst() {
        Subject used = Check.with("{a=1;[7]=2;}");
        used.run();
        Subject x = new Subject();
        for (int i = 0; i < 14; i++) {
            Check.due("get(" + i + ")", x.get(i), 0);
        }
    }

    private static void objectsOfTheirOwn() {
        Subject x = new Subject();
        Subject y = Check.with("A{!1;}{A;}");
        y.set(3, 4);
        y.type('{');
        y.run();
        Check.due("length()", x.length(), 0);
        Check.due("get(3)", x.get(3), 0);
        Check.dueThrow("time()", Check.NO_PROGRAM, x::time);
        Check.due("latest(0)", x.latest(0), -1);
    }

    private static void highestFirst() {
        Subject x = new Subject();
        Check.due("type {!12;}", x.type(0x7B2131323B7D0000L), true);
        Check.dueText("compile", Check.answerOf(x::compile), "3");
        Check.due("the number", x.code(0, 1), 12);
        Subject y = new Subject();
        Check.due("type };21!{", y.type(0x7D3B3231217B0000L), true);
        Check.dueText("compile what is turned round", Check.answerOf(y::compile), Check.NO_TEXT_OF_A_PROGRAM);
        Subject z = new Subject();
        Check.due("type {a=876;", z.type(0x7B613D3837363BL), true);
        Check.due("type }", z.type(0x7D00000000000000L), true);
        Check.dueText("compile two parts", Check.answerOf(z::compile), "3");
        Check.due("their number", z.code(0, 1), 876);
    }

    private static void zeroBytesArePassedOver() {
        Subject none = new Subject();
        Check.due("type(0)", none.type(0), true);
        Check.due("length then", none.length(), 0);
        for (int place = 0; place < 8; place++) {
            Subject x = new Subject();
            for (char letter : "{!7;}".toCharArray()) {
                Check.due("type " + letter + " as number " + place, x.type((long) letter << 8 * place), true);
            }
            Check.due("length", x.length(), 5);
            Check.dueText("compile", Check.answerOf(x::compile), "3");
        }
        Subject between = new Subject();
        Check.due("type with 0 between", between.type(0x7B0021003700003BL), true);
        Check.due("type with 0 round it", between.type(0x00007D0000000000L), true);
        Check.due("length of both", between.length(), 5);
        Check.dueText("compile both", Check.answerOf(between::compile), "3");
    }

    private static void zeroBytesNeedNoRoom() {
        Subject x = Check.typed("a".repeat(199));
        Check.due("the 200th and seven 0", x.type((long) 'a' << 24), true);
        Check.due("length", x.length(), 200);
        Check.due("eight 0", x.type(0), true);
        Check.due("length then", x.length(), 200);
        Check.due("one more and seven 0", x.type((long) 'a' << 56), false);
        Check.due("length at last", x.length(), 200);
    }

    private static void otherBytesAreRefused() {
        long[] parts = {1, 31, 32, 127, 128, 255, -1, Long.MIN_VALUE, Long.MAX_VALUE, 0x6161616161616120L,
            0x2061616161616161L, 0x7F61616161616161L, 0xFF00000000000000L, 0x0000000020000000L, 0x61FF000000000000L};
        for (long part : parts) {
            Subject x = new Subject();
            Check.due("type " + Long.toHexString(part), x.type(part), false);
            Check.due("length then", x.length(), 0);
        }
    }

    private static void refusedPartsAddNothing() {
        Subject x = Check.typed("{!1");
        Check.due("a wrong byte behind a right one", x.type(0x3B20L), false);
        Check.due("a wrong byte ahead of a right one", x.type(0x203BL), false);
        Check.due("length", x.length(), 3);
        Check.due("the rest", x.type(Check.pack(";}")), true);
        Check.dueText("compile", Check.answerOf(x::compile), "3");
        Subject y = Check.typed(FULL.substring(0, 199));
        Check.due("one too many", y.type(Check.pack("}}")), false);
        Check.due("its length", y.length(), 199);
        Check.due("the last one", y.type('}'), true);
        Check.due("none behind it", y.type('}'), false);
        Check.dueText("its compile", Check.answerOf(y::compile), "198");
    }

    private static void wipeEmptiesTheText() {
        Subject x = new Subject();
        x.wipe();
        Check.due("length of an empty text, wiped", x.length(), 0);
        Check.due("200 characters", Check.typeAll(x, FULL), true);
        x.wipe();
        Check.due("length of a full text, wiped", x.length(), 0);
        x.wipe();
        Check.due("length, wiped twice", x.length(), 0);
        Check.dueThrow("compile", Check.NO_TEXT_OF_A_PROGRAM, x::compile);
        Check.due("200 characters again", Check.typeAll(x, FULL), true);
        Check.due("length of a full text", x.length(), 200);
        x.wipe();
        Check.due("a short text", x.type(Check.pack("{}")), true);
        Check.dueText("compile has nothing of the wiped ones", Check.answerOf(x::compile), "1");
    }

    private static void wipeChangesNothingElse() {
        Subject x = Check.with("A{!7;}{A;a=3;}");
        Check.due("run", x.run(), 0);
        x.type(Check.pack("{!8;}"));
        x.wipe();
        Check.due("code", x.code(1, 1), 3);
        Check.due("time", x.time(), 17);
        Check.due("procedure", x.procedure(0, 0), 4);
        Check.due("cycles", x.latest(0), 17);
        Check.due("output", x.output(0), 7);
        Check.due("place", x.get(0), 3);
    }

    private static void lengthOfEachText() {
        Subject x = new Subject();
        for (int count = 0; count <= 200; count++) {
            Check.due("length()", x.length(), count);
            Check.due("type a", x.type('a'), count < 200);
        }
        Check.due("length() at last", x.length(), 200);
    }

    public static void main(String[] args) {
        Check.sentence("THE TEXT has at most 200 characters", TextTest::atMost200);
        Check.sentence("The text (a full one) is compiled", TextTest::fullTextIsCompiledWhole);
        Check.sentence("33 .. 126", TextTest::from33To126);
        Check.sentence("An empty text", TextTest::emptyAtFirst);
        Check.sentence("no program", TextTest::noProgramAtFirst);
        Check.sentence("all places are 0 at first", TextTest::placesAre0AtFirst);
        Check.sentence("A new object", TextTest::objectsOfTheirOwn);
        Check.sentence("the eight bytes of part, the highest first", TextTest::highestFirst);
        Check.sentence("bytes that are 0 are passed over", TextTest::zeroBytesArePassedOver);
        Check.sentence("bytes that are 0 are passed over (in a full text)", TextTest::zeroBytesNeedNoRoom);
        Check.sentence("false if another byte is not 33 .. 126", TextTest::otherBytesAreRefused);
        Check.sentence("A call that answers false changes nothing (type)", TextTest::refusedPartsAddNothing);
        Check.sentence("The text becomes empty", TextTest::wipeEmptiesTheText);
        Check.sentence("The text becomes empty (and nothing else)", TextTest::wipeChangesNothingElse);
        Check.sentence("How many characters the text has", TextTest::lengthOfEachText);
        Check.finish("TextTest");
    }
}
