/** Promises 29 to 32. */
public final class TextTest {
    public static void main(String[] args) {
        type();
        faults();
        noRoom();
        load();
        loadOrder();
        longText();
        Checks.end();
    }

    private static void type() {
        ThrusterSelector body = new ThrusterSelector();
        int[] bad = {-1, 256, Integer.MIN_VALUE, Integer.MAX_VALUE};
        for (int code : bad) {
            Checks.due("29 code " + code, body.type(code), Checks.BAD_VALUE);
        }
        for (int k = 1; k <= 100; k++) {
            Checks.due("29 length", body.type(k == 1 ? 0 : 255), k);
        }
        Checks.due("29 the byte 101", body.type(48), Checks.FULL);
        Checks.due("29 a bad one, when full", body.type(256), Checks.BAD_VALUE);
        Checks.due("30 clearText", body.clearText(), 100);
        Checks.due("30 clearText again", body.clearText(), 0);
        Checks.due("29 from the start", body.type(48), 1);
        Checks.due("29 is not recorded", body.undo(), Checks.BAD_STATE);
    }

    private static void fault(String text, int want) {
        ThrusterSelector body = new ThrusterSelector();
        Checks.write(body, text);
        Checks.due("31 fault of '" + text + "'", body.textFault(), want);
        int queued = body.load();
        if ((queued == Checks.BAD_STATE) != (want != Checks.NONE)) {
            Checks.due("32 load of '" + text + "'", queued, want);
        }
    }

    private static void faults() {
        String[] good = {
            "1,2,3", "-1,-2,-3", "!1,2,3", " ! - 1 , - 2 , - 3 ", "0005,0000,-0", "2000,-2000,1999", "1,2,3;4,5,6",
            "1,2,3 ; ! 4,5,6", "!1,2,3;!4,5,6;7,8,9", "  1,2,3  ",
        };
        for (String text : good) {
            fault(text, Checks.NONE);
        }
        fault("", 0);
        fault("   ", 3);
        fault("1", 1);
        fault("1,", 2);
        fault("1,2", 3);
        fault("1,2,", 4);
        fault("1,2,-", 5);
        fault("1,2,- ", 6);
        fault("1,2 ", 4);
        fault("!", 1);
        fault("!-", 2);
        fault("1,2,3;", 6);
        fault("1,2,3; ", 7);
        fault("1,2,3;!", 7);
        fault("1,2,3;;4,5,6", 6);
        fault(";1,2,3", 0);
        fault("1,2,3,4", 5);
        fault("1,2;3", 3);
        fault("1,,3", 2);
        fault(",1,2", 0);
        fault("!!1,2,3", 1);
        fault("--1,2,3", 1);
        fault("-!1,2,3", 1);
        fault("1,!2,3", 2);
        fault("1,2,3!", 5);
        fault("1,2,3-", 5);
        fault("1 2,3,4", 2);
        fault("1,2,3 4", 6);
        fault("1,2,3;4 4,5,6", 8);
        fault("+1,2,3", 0);
        fault("1,2,3\n", 5);
        fault("1,\t2,3", 2);
        fault("1,2,\u00e93", 4);
        fault("1.5,2,3", 1);
        fault("2001,2,3", 0);
        fault("-2001,2,3", 1);
        fault("1,- 2001,3", 4);
        fault("1,2,9999", 4);
        fault("1,2,00000", 4);
        fault("00005,2,3", 0);
        fault("1,20000,3", 2);
        fault("1,2,3;4,5,2001;x", 10);
        fault("2001x", 0);
        fault("2001", 0);
        fault("4294967297,0,0", 0);
        fault("1-x,2,3", 1);
        fault("1/2", 1);
        fault("1:2", 1);
    }

    private static void noRoom() {
        ThrusterSelector body = new ThrusterSelector();
        for (int k = 0; k < 8; k++) {
            body.request(0, 0, 0);
        }
        String[] texts = {"1,2,3; !4,5,6; -7,8,9", "1,2,3;!4,5,6 ; !7", "1,2,3; 4,5,6 ;  x", "1,2,3; 4,5,6 ; 9999", "1,2,3;4,5,6;"};
        int[] positions = {15, 15, 16, 15, 12};
        for (int k = 0; k < texts.length; k++) {
            Checks.write(body, texts[k]);
            Checks.due("31 room for two: '" + texts[k] + "'", body.textFault(), positions[k]);
            Checks.due("32 room for two: '" + texts[k] + "'", body.load(), Checks.BAD_STATE);
        }
        Checks.write(body, "1,2,3;4,x");
        Checks.due("31 a fault before there is no room", body.textFault(), 8);
        Checks.write(body, "1,2,3;4,5,6");
        Checks.due("31 it has room", body.textFault(), Checks.NONE);
        Checks.due("32 it has room", body.load(), 10);
        Checks.due("31 it has none now", body.textFault(), 0);
        Checks.write(body, "  !1,2,3");
        Checks.due("31 the first byte behind blanks", body.textFault(), 2);
        Checks.write(body, "");
        Checks.due("31 an empty text, too", body.textFault(), 0);
        Checks.write(body, "  ");
        Checks.due("31 blanks, too", body.textFault(), 2);
        body.cycle();
        Checks.write(body, "1,2,3;4,5,6");
        Checks.due("31 room for one", body.textFault(), 6);
    }

    private static void load() {
        ThrusterSelector body = new ThrusterSelector();
        Checks.due("32 an empty text", body.load(), Checks.BAD_STATE);
        Checks.due("32 an error is not recorded", body.undo(), Checks.BAD_STATE);
        Checks.write(body, "- 12, 0345 ,-0;-2000,2000,7");
        Checks.due("32 load", body.load(), 2);
        int[][] due = {{-12, 345, 0}, {-2000, 2000, 7}};
        for (int place = 0; place < 2; place++) {
            for (int part = 0; part < 3; part++) {
                Checks.due("32 place " + place + " part " + part, body.requested(place, part), due[place][part]);
            }
        }
        Checks.due("32 the text stays", body.load(), 4);
        Checks.due("32 is one call", body.undo(), 1);
        Checks.due("32 two are left", body.queued(), 2);
        Checks.due("32 the text still stays", body.clearText(), 27);
        Checks.due("32 without a text", body.load(), Checks.BAD_STATE);
    }

    private static void loadOrder() {
        ThrusterSelector body = new ThrusterSelector();
        body.request(9, 0, 0);
        Checks.write(body, "1,0,0;!2,0,0;3,0,0;!4,0,0");
        Checks.due("32 load", body.load(), 5);
        int[] order = {4, 2, 9, 1, 3};
        for (int place = 0; place < order.length; place++) {
            Checks.due("32 place " + place, body.requested(place, 0), order[place]);
        }
    }

    private static void longText() {
        StringBuilder text = new StringBuilder("0,0,1");
        for (int k = 2; k <= 10; k++) {
            text.append(";0,0,").append(k);
        }
        ThrusterSelector body = new ThrusterSelector();
        Checks.write(body, text.toString());
        Checks.due("32 ten requests", body.load(), 10);
        Checks.due("32 the last one", body.requested(9, 2), 10);
        fault(text + ";", text.length() + 1);
        fault(text + ";0,0,11", text.length() + 1);
        fault(text + "; 0,0,11", text.length() + 2);
        StringBuilder digits = new StringBuilder();
        for (int k = 0; k < 100; k++) {
            digits.append('0');
        }
        fault(digits.toString(), 0);
        fault("1,2,".concat(" ".repeat(95)).concat("3"), Checks.NONE);
        fault("1,2,".concat(" ".repeat(96)), 100);
    }
}
