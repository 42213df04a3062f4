/** Each sentence of the document about the text that names a boundary. */
public final class TextEdgesTest {
    private static final int[] FAR = {Integer.MIN_VALUE, Integer.MIN_VALUE + 1, Integer.MAX_VALUE - 1, Integer.MAX_VALUE};
    private static final String TEN = "0,0,1;0,0,2;0,0,3;0,0,4;0,0,5;0,0,6;0,0,7;0,0,8;0,0,9;0,0,10";

    public static void main(String[] args) {
        mostBytes();
        byteRange();
        emptied();
        grammarOfAList();
        grammarOfARequest();
        grammarOfASigned();
        digits();
        rangeOfNumbers();
        frontOfTheQueue();
        blanks();
        otherBytes();
        firstFault();
        numberOutOfRange();
        noRoom();
        endsTooEarly();
        noFault();
        inTheirOrder();
        theTextStays();
        asOneCall();
        refusedLoad();
        Checks.end();
    }

    private static ThrusterSelector typed(int requests, String text) {
        ThrusterSelector body = new ThrusterSelector();
        for (int k = 0; k < requests; k++) {
            body.request(7, 7, 100 + k);
        }
        Checks.write(body, text);
        return body;
    }

    /** A fault, with so many requests in the queue; load() refuses it and changes nothing. */
    private static void faultWith(int requests, String text, int due) {
        String call = "'" + text + "' behind " + requests;
        Checks.due("textFault of " + call, typed(requests, text).textFault(), due);
        Checks.refused("load of " + call, () -> typed(requests, text), Checks.BAD_STATE, b -> b.load());
    }

    private static void fault(String text, int due) {
        faultWith(0, text, due);
    }

    /** A text without a fault, and all parts of its requests as the queue has them then. */
    private static void good(String text, int... parts) {
        ThrusterSelector body = typed(0, text);
        Checks.due("textFault of '" + text + "'", body.textFault(), Checks.NONE);
        Checks.due("load of '" + text + "'", body.load(), parts.length / 3);
        for (int k = 0; k < parts.length; k++) {
            Checks.due("number " + k + " of '" + text + "'", body.requested(k / 3, k % 3), parts[k]);
        }
        Checks.due("queued behind '" + text + "'", body.queued(), parts.length / 3);
    }

    private static void mostBytes() {
        Checks.sentence("Requests can be given by a text of at most 100 bytes");
        ThrusterSelector body = new ThrusterSelector();
        for (int k = 1; k <= 100; k++) {
            Checks.due("the length", body.type(' '), k);
        }
        Checks.due("the byte 101", body.type(' '), Checks.FULL);
        Checks.due("textFault", body.textFault(), 100);
        String full = TEN.concat(" ".repeat(100 - TEN.length()));
        Checks.due("load of 100 bytes", typed(0, full).load(), 10);
        Checks.refused("one byte more", () -> typed(0, full), Checks.FULL, b -> b.type(' '));
        fault(full.substring(0, 99).concat("x"), 99);
        String late = " ".repeat(95).concat("1,2,3");
        good(late, 1, 2, 3);
        fault(" ".repeat(96).concat("1,2,3"), 100);
    }

    private static void byteRange() {
        Checks.sentence("Returns the length of the text; BAD_VALUE if code is out of range; FULL if the text has 100 bytes.");
        int[] bad = {-1, 256, 304, FAR[0], FAR[1], FAR[2], FAR[3]};
        for (int code : bad) {
            Checks.refused("type(" + code + ")", () -> typed(1, "1,2,3"), Checks.BAD_VALUE, b -> b.type(code));
            Checks.refused("type(" + code + "), when full", () -> typed(1, "x".repeat(100)), Checks.BAD_VALUE, b -> b.type(code));
        }
        for (int code = 0; code < 256; code++) {
            int any = code;
            Checks.due("type(" + code + ")", new ThrusterSelector().type(code), 1);
            Checks.refused("type(" + code + "), when full", () -> typed(0, "1".repeat(100)), Checks.FULL, b -> b.type(any));
        }
    }

    private static void emptied() {
        Checks.sentence("Empties the text.");
        int[] lengths = {0, 1, 5, 99, 100};
        for (int length : lengths) {
            ThrusterSelector body = typed(0, "1".repeat(length));
            Checks.due("the length that it had", body.clearText(), length);
            Checks.due("it is empty", body.clearText(), 0);
            Checks.due("its fault", body.textFault(), 0);
            Checks.due("the first byte", body.type('2'), 1);
            Checks.due("it ends behind it", body.textFault(), 1);
            Checks.due("nothing is recorded", body.undo(), Checks.BAD_STATE);
        }
    }

    private static void grammarOfAList() {
        Checks.sentence("list    = request { \";\" request }");
        good("1,2,3", 1, 2, 3);
        good("1,2,3;4,5,6", 1, 2, 3, 4, 5, 6);
        good("1,2,3;4,5,6;7,8,9", 1, 2, 3, 4, 5, 6, 7, 8, 9);
        fault("", 0);
        fault(";", 0);
        fault(";1,2,3", 0);
        fault("1,2,3;", 6);
        fault("1,2,3;;4,5,6", 6);
        fault("1,2,3 4,5,6", 6);
        fault("1,2,3!4,5,6", 5);
        fault("1,2,3-4,5,6", 5);
        fault("1,2,3,4,5,6", 5);
        fault("1,2,3:4,5,6", 5);
        fault("1,2,3;4,5", 9);
        fault("1,2;3,4,5", 3);
    }

    private static void grammarOfARequest() {
        Checks.sentence("request = [ \"!\" ] signed \",\" signed \",\" signed");
        good("!1,2,3", 1, 2, 3);
        fault("!", 1);
        fault("!!1,2,3", 1);
        fault("1!,2,3", 1);
        fault("1,!2,3", 2);
        fault("1,2,!3", 4);
        fault("1,2,3!", 5);
        fault("1", 1);
        fault("1,", 2);
        fault("1,2", 3);
        fault("1,2,", 4);
        fault(",1,2", 0);
        fault("!,1,2", 1);
        fault("1,,2,3", 2);
        fault("1,2,,3", 4);
        fault("1,2,;", 4);
        fault("1,;", 2);
        fault("!;", 1);
        fault("1;", 1);
    }

    private static void grammarOfASigned() {
        Checks.sentence("signed  = [ \"-\" ] number");
        good("-1,-2,-3", -1, -2, -3);
        good("!-1,2,-3", -1, 2, -3);
        good("-0,-0000,0", 0, 0, 0);
        good("-1,2,3;4,5,6", -1, 2, 3, 4, 5, 6);
        fault("-", 1);
        fault("--1,2,3", 1);
        fault("1,--2,3", 3);
        fault("-!1,2,3", 1);
        fault("-,2,3", 1);
        fault("-;", 1);
        fault("1-,2,3", 1);
        fault("1-2,3", 1);
        fault("+1,2,3", 0);
        fault("1,2,-", 5);
    }

    private static void digits() {
        Checks.sentence("Numbers have 1 to 4 digits");
        good("1,10,100;1000,0,00", 1, 10, 100, 1000, 0, 0);
        good("000,0000,0001", 0, 0, 1);
        fault("00000,2,3", 0);
        fault("1,00001,3", 2);
        fault("1,2,-00002", 5);
        fault("1,2,000000000000000000000000000003", 4);
        fault("1,2,4294967299", 4);
        fault("1,2,18446744073709551619", 4);
        Checks.sentence("(0005 is 5)");
        good("0005,-0005,05", 5, -5, 5);
        good("0010,0100,0777", 10, 100, 777);
        good("1,2,3;45,67,89;0,12,345;1678,1901,1999", 1, 2, 3, 45, 67, 89, 0, 12, 345, 1678, 1901, 1999);
    }

    private static void rangeOfNumbers() {
        Checks.sentence("0 to 2000");
        good("0,1999,2000", 0, 1999, 2000);
        good("-0,-1999,-2000", 0, -1999, -2000);
        fault("2001,2,3", 0);
        fault("-2001,2,3", 1);
        fault("1,2001,3", 2);
        fault("1,2,2001", 4);
        fault("1,2,-2001", 5);
        fault("1,2,9999", 4);
        fault("1,2,3000", 4);
        fault("1,2,2010", 4);
    }

    private static void frontOfTheQueue() {
        Checks.sentence("A request with a ! goes to the front of the queue (of several the last one is the first one then), others to the end.");
        good("!1,2,3;!4,5,6;!7,8,9", 7, 8, 9, 4, 5, 6, 1, 2, 3);
        good("1,2,3;!4,5,6;7,8,9;!10,11,12", 10, 11, 12, 4, 5, 6, 1, 2, 3, 7, 8, 9);
        ThrusterSelector body = typed(3, "!1,2,3;4,5,6;!7,8,9");
        Checks.due("load", body.load(), 6);
        int[] turns = {9, 3, 100, 101, 102, 6};
        for (int place = 0; place < 6; place++) {
            Checks.due("place " + place, body.requested(place, 2), turns[place]);
        }
        body = typed(8, "!1,2,3;!4,5,6");
        Checks.due("load of the last two", body.load(), 10);
        Checks.due("the first one", body.requested(0, 2), 6);
        Checks.due("the second one", body.requested(1, 2), 3);
        Checks.due("the last one", body.requested(9, 2), 107);
        body = typed(9, "1,2,3");
        Checks.due("load of the last one", body.load(), 10);
        Checks.due("it is at the end", body.requested(9, 2), 3);
    }

    private static void blanks() {
        Checks.sentence("Blanks (32) may stand anywhere except within numbers (a blank ends a number; it may stand behind a \"-\" or \"!\").");
        good(" 1,2,3", 1, 2, 3);
        good("1 ,2,3", 1, 2, 3);
        good("1, 2,3", 1, 2, 3);
        good("1,2,3 ", 1, 2, 3);
        good("1,2,- 3", 1, 2, -3);
        good("- 1,2,3", -1, 2, 3);
        good("! 1,2,3", 1, 2, 3);
        good("!- 1,2,3", -1, 2, 3);
        good("! -1,2,3", -1, 2, 3);
        good("1,2,3 ;4,5,6", 1, 2, 3, 4, 5, 6);
        good("1,2,3; 4,5,6", 1, 2, 3, 4, 5, 6);
        good("   !   -   1   ,   -   2   ,   -   3   ;   4   ,   5   ,   6   ", -1, -2, -3, 4, 5, 6);
        fault("1 0,2,3", 2);
        fault("1  0,2,3", 3);
        fault("1,2 0,3", 4);
        fault("1,2,3 0", 6);
        fault("1,2,3 0;4,5,6", 6);
        fault("200 1,2,3", 4);
        fault("0000 0,2,3", 5);
        fault("- - 1,2,3", 2);
        fault("! ! 1,2,3", 2);
        fault("1,2,3; ;", 7);
    }

    private static void otherBytes() {
        Checks.sentence("the position, from 0, of the first byte that is not allowed at its place");
        for (int code = 0; code < 256; code++) {
            char c = (char) code;
            boolean digit = code >= '0' && code <= '9';
            boolean number = digit || code == '-' || code == ' ';
            due("x1,2,3", c, number || c == '!' ? Checks.NONE : 0);
            due("1x,2,3", c, digit || c == ' ' ? Checks.NONE : c == ',' ? 2 : 1);
            due("1,x2,3", c, number ? Checks.NONE : 2);
            due("1,2,x3", c, number ? Checks.NONE : 4);
            due("-x1,2,3", c, digit || c == ' ' ? Checks.NONE : 1);
            due("!x1,2,3", c, number ? Checks.NONE : 1);
            due("1,2,3x", c, digit || c == ' ' ? Checks.NONE : c == ';' ? 6 : 5);
            due("1,2,3 x", c, c == ' ' ? Checks.NONE : c == ';' ? 7 : 6);
            due("1,2,3;x1,2,3", c, number || c == '!' ? Checks.NONE : 6);
            due("x", c, digit || c == '-' || c == '!' || c == ' ' ? 1 : 0);
        }
    }

    private static void due(String text, char c, int want) {
        String with = text.replace('x', c);
        Checks.due("textFault of '" + text + "', x being the byte " + (int) c, typed(0, with).textFault(), want);
    }

    private static void firstFault() {
        Checks.sentence("of the first byte that is not allowed at its");
        fault("1,x,3;4,y,6", 2);
        fault("1,2,3;4,y,6;z", 8);
        fault("1,2x,2001", 3);
        fault("2001,x", 0);
        fault("1,2,x", 4);
        fault("x", 0);
        fault("   x", 3);
        fault("1,2,3;4,5,6;x", 12);
    }

    private static void numberOutOfRange() {
        Checks.sentence("(for a number that is out of its range or has too many digits its first digit");
        fault("2001", 0);
        fault("- 2001,2,3", 2);
        fault("!2001,2,3", 1);
        fault("! - 2001,2,3", 4);
        fault("1,  2001,3", 4);
        fault("1,2,3;4,5,- 99999", 12);
        fault("2001x", 0);
        fault("20000", 0);
        fault("00000", 0);
        fault("1,2,20000", 4);
        fault("1,2," + "9".repeat(96), 4);
        fault("0".repeat(100), 0);
        fault("2001,99999,x", 0);
    }

    private static void noRoom() {
        Checks.sentence("for a request for which the queue has no room its first byte, also if it is that of a \"!\" or \"-\", whatever follows)");
        for (int room = 0; room < 10; room++) {
            String fits = TEN.substring(0, 6 * room);
            faultWith(10 - room, fits + "1,2,3", 6 * room);
            faultWith(10 - room, fits + "!1,2,3", 6 * room);
            faultWith(10 - room, fits + "-1,2,3", 6 * room);
            faultWith(10 - room, fits + "  ! - 1,2,3", 6 * room + 2);
            faultWith(10 - room, fits + "2001", 6 * room);
            faultWith(10 - room, fits + "!x", 6 * room);
            faultWith(10 - room, fits + "-x", 6 * room);
            faultWith(10 - room, fits + "!", 6 * room);
            faultWith(10 - room, fits + "1", 6 * room);
            faultWith(10 - room, fits + "x", 6 * room);
            faultWith(10 - room, fits + "1,2,3;4,5,6;x", 6 * room);
        }
        faultWith(0, TEN + ";1,2,3", 61);
        faultWith(0, TEN + ";!1,2,3", 61);
        faultWith(0, TEN + "; -x", 62);
        faultWith(9, "x,2,3;4,5,6", 0);
        faultWith(9, "1,2,3x;4,5,6", 5);
        faultWith(9, "1,2,2001;4,5,6", 4);
    }

    private static void endsTooEarly() {
        Checks.sentence("or the length of the text, if it ends too early (also if it is empty).");
        fault("", 0);
        fault(" ", 1);
        fault("  ", 2);
        String whole = " ! - 1 , 2 , - 3 ; 4 , 5 ,";
        for (int length = 0; length <= whole.length(); length++) {
            String start = whole.substring(0, length);
            if (length < whole.indexOf('3') + 1 || length > whole.indexOf(';')) {
                fault(start, length);
            } else {
                good(start, -1, 2, -3);
            }
        }
        fault(" ".repeat(100), 100);
        faultWith(10, "", 0);
        faultWith(10, "  ", 2);
        faultWith(9, "1,2,3;", 6);
        faultWith(9, "1,2,3; ", 7);
        faultWith(0, TEN + ";", 61);
    }

    private static void noFault() {
        Checks.sentence("Returns its fault; NONE if it has none.");
        for (int room = 1; room <= 10; room++) {
            String fits = TEN.substring(0, room == 10 ? TEN.length() : 6 * room - 1);
            ThrusterSelector body = typed(10 - room, fits);
            Checks.due("textFault with just enough room", body.textFault(), Checks.NONE);
            Checks.due("textFault again", body.textFault(), Checks.NONE);
            Checks.due("load", body.load(), 10);
            Checks.due("textFault without room", body.textFault(), 0);
            body.cycle();
            Checks.due("textFault with room for one", body.textFault(), room == 1 ? Checks.NONE : 6);
            body.undo();
            body.undo();
            Checks.due("textFault behind undo", body.textFault(), Checks.NONE);
        }
        Checks.due("nothing is recorded", typedOnly().undo(), Checks.BAD_STATE);
    }

    private static ThrusterSelector typedOnly() {
        ThrusterSelector body = typed(0, "1,2,3");
        body.textFault();
        body.clearText();
        return body;
    }

    private static void inTheirOrder() {
        Checks.sentence("Puts the requests of the text into the queue, in their order.");
        ThrusterSelector body = typed(0, TEN);
        Checks.due("load of ten", body.load(), 10);
        for (int place = 0; place < 10; place++) {
            Checks.due("place " + place, body.requested(place, 2), place + 1);
        }
        body = typed(2, "1,2,3;-4,5,-6");
        Checks.due("load behind two", body.load(), 4);
        int[] turns = {100, 101, 3, -6};
        for (int place = 0; place < 4; place++) {
            Checks.due("turn of place " + place, body.requested(place, 2), turns[place]);
        }
    }

    private static void theTextStays() {
        Checks.sentence("The text stays.");
        ThrusterSelector body = typed(0, "1,2,3;4,5,6");
        for (int k = 1; k <= 5; k++) {
            Checks.due("load " + k, body.load(), 2 * k);
        }
        Checks.due("load without room", body.load(), Checks.BAD_STATE);
        Checks.due("its length", body.type(' '), 12);
        body.undo();
        Checks.due("its length behind undo", body.type(' '), 13);
        Checks.due("clearText", body.clearText(), 13);
    }

    private static void asOneCall() {
        Checks.sentence("Recorded, as one call.");
        ThrusterSelector body = typed(0, TEN);
        body.load();
        Checks.due("undo", body.undo(), 0);
        Checks.due("queued", body.queued(), 0);
        Checks.due("undo again", body.undo(), Checks.BAD_STATE);
        body = typed(4, "!1,2,3;!4,5,6;7,8,9");
        body.load();
        Checks.due("undo behind four requests", body.undo(), 4);
        Checks.due("queued", body.queued(), 4);
        Checks.due("the first one", body.requested(0, 2), 100);
    }

    private static void refusedLoad() {
        Checks.sentence("Returns the number of requests in the queue then; BAD_STATE if the text has a fault.");
        String[] texts = {"", " ", "1,2,3;4,5,x", "!1,2,3;", "1,2,3;4,5,2001", "1,2,3;4,5,6;7,8,9"};
        for (String text : texts) {
            Checks.refused("load of '" + text + "' behind eight", () -> typed(8, text), Checks.BAD_STATE, b -> b.load());
        }
        ThrusterSelector body = typed(0, "1,2,");
        Checks.due("load of what is not finished", body.load(), Checks.BAD_STATE);
        body.type('3');
        Checks.due("load of what is finished", body.load(), 1);
        Checks.due("its last part", body.requested(0, 2), 3);
        body.type(';');
        Checks.due("load of what is not finished again", body.load(), Checks.BAD_STATE);
        body.clearText();
        Checks.due("load of nothing", body.load(), Checks.BAD_STATE);
        Checks.due("queued", body.queued(), 1);
    }
}
