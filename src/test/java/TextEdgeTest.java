/** The edges that the Terms and promises 2 and 3 name of texts, a method a sentence. */
public final class TextEdgeTest {
    private static final Due DUE = new Due("TextEdgeTest");
    private static final String DIGITS = "0123456789";

    public static void main(String[] args) {
        lowestFirst();
        countOfBytes();
        sixtyFourBytes();
        eachByteBehindEachBeginning();
        theEndIfSomethingLacks();
        digitsOfNumbers();
        noZeroAhead();
        aDigit();
        firstByteOfSeveral();
        numbersOutOfRange();
        placesThatAreNotThere();
        placesThatHaveOne();
        noRoom();
        sizeWithChairsOrWalkers();
        behindAllAheadOfIt();
        letterOfTheFirst();
        kindOneIsAhead();
        allOfItOrNothing();
        nothingIsCounted();
        noneThen();
        DUE.end();
    }

    private static void is(String what, long got, long want) {
        DUE.is(what, got, want);
    }

    private static void due(String text, int want) {
        due(new ChairTooFew(), text, want);
    }

    private static void due(ChairTooFew x, String text, int want) {
        is("party() of " + text, Twin.read(x, text), want);
        is("it has none then, behind " + text, x.count(8), 0);
    }

    // "n (1 .. 8) bytes come to the TEXT, the lowest first"
    private static void lowestFirst() {
        ChairTooFew x = new ChairTooFew();
        is("n4;", x.feed(3, 0x3b346eL), 3);
        is("read", x.party(), 1);
        is("N", x.count(0), 4);
        x = new ChairTooFew();
        is("n4;", x.feed(3, -1L << 24 | 0x3b346eL), 3);
        is("the bytes above do not come", x.party(), 1);
        is("eight", x.feed(8, 0x3b30663b32663b31L), 8);
        is("the lowest of eight is 1, which is no letter", x.party(), -1000);
        is("eight", x.feed(8, 0x663b32663b31663bL), 8);
        is("the lowest of eight is ;", x.party(), -1000);
        is("eight", x.feed(8, 0x3b663b32663b3166L), 8);
        is("the greatest of eight is the last", x.party(), -1007);
        is("one", x.feed(1, 0x66L), 1);
        is("and then eight", x.feed(8, 0x3b31663b32663b30L), 9);
        is("in the order of the calls", x.party(), 3);
        is("the last FORM", x.form(0), 1);
    }

    // ": how many it has"
    private static void countOfBytes() {
        ChairTooFew x = new ChairTooFew();
        int had = 0;
        for (int n = 1; n <= 8; n++) {
            had += n;
            is("so many", x.feed(n, 0), had);
            is("count(8)", x.count(8), had);
        }
    }

    // "(64 bytes at most)", "-6 (above 64, too)"
    private static void sixtyFourBytes() {
        StringBuilder s = new StringBuilder();
        while (s.length() < 63) s.append("f1;");
        ChairTooFew x = new ChairTooFew();
        is("63", Twin.feed(x, s.toString()), 63);
        is("two more are too many", x.feed(2, ';'), -6);
        is("one more", x.feed(1, 'f'), 64);
        is("no more", x.feed(1, ';'), -6);
        is("what lacks", x.party(), -1064);
        String full = "n60;c59;w59,6,99;w0,0,1;p4,99;f2;c0;c1;c2;c3;c4;c15;c16;c17;c18;";
        is("a text of 64", full.length(), 64);
        due(full, 15);
        due(full.substring(0, 63), -1063);
    }

    private static void eachByteBehindEachBeginning() {
        String letters = "ncwpf";
        behind("", letters);
        behind("f0;", letters);
        behind("n12;c5;", letters);
        for (String letter : new String[] {"n", "c"}) {
            behind(letter, DIGITS);
            numberThen(letter, ';');
        }
        behind("w", DIGITS);
        numberThen("w", ',');
        behind("w1,", DIGITS);
        behind("w1,2", ",");
        behind("w1,2,", DIGITS);
        numberThen("w1,2,", ';');
        behind("p", DIGITS);
        behind("p1", ",");
        behind("p1,", DIGITS);
        numberThen("p1,", ';');
        behind("f", DIGITS);
        behind("f0", ";");
        behind("f9", ";");
    }

    private static void numberThen(String beginning, char end) {
        behind(beginning + "0", "" + end);
        behind(beginning + "1", DIGITS + end);
        behind(beginning + "10", DIGITS + end);
        behind(beginning + "99", DIGITS + end);
        behind(beginning + "999", "" + end);
        behind(beginning + "100", "" + end);
    }

    /** Each of 256 bytes behind a beginning: those that go on are told. */
    private static void behind(String beginning, String goOn) {
        for (int b = 0; b < 256; b++) {
            String text = beginning + (char) b;
            int answer = Twin.read(new ChairTooFew(), text);
            if (goOn.indexOf((char) b) < 0) {
                is("no PARTY goes on behind " + beginning + " with " + b, answer, -1000 - beginning.length());
            } else if (b == ';') {
                is("a STATEMENT: " + text, answer > 0 || answer <= -2000 ? 1 : 0, 1);
            } else {
                is("something lacks: " + text, answer, -1000 - text.length());
            }
        }
    }

    // "(the end, if something lacks)"
    private static void theEndIfSomethingLacks() {
        due("", -1000);
        String all = "n12;c3;w4,5,67;p1,23;f1;";
        int statements = 0;
        for (int n = 1; n <= all.length(); n++) {
            boolean whole = all.charAt(n - 1) == ';';
            if (whole) statements++;
            due(all.substring(0, n), whole ? statements : -1000 - n);
        }
    }

    // "Numbers have 1 to 3 digits"
    private static void digitsOfNumbers() {
        due("c;", -1001);
        due("c1;", 1);
        due("c12;", 1);
        due("c123;", -2000);
        due("c1234;", -1004);
        due("c1230;", -1004);
        due("w5,0,;", -1005);
        due("w5,0,1;", 1);
        due("w5,0,12;", 1);
        due("w5,0,123;", -2000);
        due("w5,0,1234;", -1008);
        due("w,0,1;", -1001);
        due("w1234,0,1;", -1004);
        due("p0,;", -1003);
        due("p0,9;", 1);
        due("p0,99;", 1);
        due("p0,999;", -2000);
        due("p0,9999;", -1006);
        due("n;", -1001);
        due("n9;", 1);
        due("n999;", -2000);
        due("n9999;", -1004);
    }

    // ", no 0 ahead of another"
    private static void noZeroAhead() {
        String[] numbers = {"n", "c", "w", "w1,2,", "p1,"};
        for (String ahead : numbers) {
            for (String zero : new String[] {"00", "01", "09", "001", "012"}) {
                due(ahead + zero + ";", -1000 - ahead.length() - 1);
            }
        }
        due("c0;", 1);
        due("c10;", 1);
        due("n10;c0;", 2);
        due("n40;w30,0,20;", 2);
        due("c100;", -2000);
    }

    // "KIND (a digit)", "FORM (a digit)"
    private static void aDigit() {
        for (int d = 0; d <= 9; d++) {
            due("w1," + d + ",50;", d <= 6 ? 1 : -2000);
            due("p" + d + ",50;", d <= 4 ? 1 : -2000);
            due("f" + d + ";", d <= 2 ? 1 : -2000);
            due("w1," + d + "0,50;", -1004);
            due("p" + d + "0,50;", -1002);
            due("f" + d + "0;", -1002);
        }
        due("w1,,50;", -1003);
        due("p,50;", -1001);
        due("f;", -1001);
    }

    // "kind 1 the place of the first byte with which no PARTY can go on"
    private static void firstByteOfSeveral() {
        due("xyz", -1000);
        due("c1x;y", -1002);
        due("c1;;;", -1003);
        due("c1;c2;c03;c04;", -1008);
        due(" c1;", -1000);
        due("c1; ", -1003);
        due("C1;", -1000);
        due("c-1;", -1001);
        due("c+1;", -1001);
        due("n4,", -1002);
        due("w1,0;", -1004);
        due("w1;", -1002);
        due("f1,", -1002);
    }

    // "a number out of range"
    private static void numbersOutOfRange() {
        int[] n = {0, 3, 4, 60, 61, 999};
        for (int v : n) due("n" + v + ";", v >= 4 && v <= 60 ? 1 : -2000);
        int[] paces = {0, 1, 99, 100, 999};
        for (int v : paces) {
            due("w5,0," + v + ";", v >= 1 && v <= 99 ? 1 : -2000);
            due("p0," + v + ";", v >= 1 && v <= 99 ? 1 : -2000);
        }
    }

    // "a PLACE that is not there"
    private static void placesThatAreNotThere() {
        int[] sizes = {4, 24, 60};
        for (int n : sizes) {
            for (String of : new String[] {"c", "w"}) {
                String rest = of.equals("c") ? ";" : ",0,50;";
                due("n" + n + ";" + of + "0" + rest, 2);
                due("n" + n + ";" + of + (n - 1) + rest, 2);
                int letter = ("n" + n + ";").length();
                due("n" + n + ";" + of + n + rest, -2000 - letter);
                due("n" + n + ";" + of + "999" + rest, -2000 - letter);
            }
        }
        due("c23;w23,0,50;", 2);
        due("c24;", -2000);
        due("w24,0,50;", -2000);
    }

    // "or has one"
    private static void placesThatHaveOne() {
        due("c5;c5;", -2003);
        due("w5,0,50;w5,0,50;", -2008);
        due("c5;w5,0,50;", 2);
        due("w5,0,50;c5;", 2);
        ChairTooFew x = new ChairTooFew();
        x.chair(7);
        x.walker(8, 0, 50);
        due(x, "c7;", -2000);
        due(x, "w8,0,50;", -2000);
        due(x, "c8;w7,0,50;", 2);
        ChairTooFew gone = new ChairTooFew();
        gone.chair(7);
        gone.chair(6);
        gone.walker(7, 0, 50);
        gone.walker(18, 0, 50);
        gone.walker(8, 0, 50);
        gone.set(2, 2, 0);
        is("who is at 18 goes", gone.stop(), 1);
        due(gone, "w18,0,50;", 1);
        due(gone, "w18,0,50;", -2000);
        due(gone, "c6;", 1);
        due(gone, "c6;", -2000);
    }

    // "no room"
    private static void noRoom() {
        String eleven = "c0;c1;c2;c3;c4;c5;c6;c7;c8;c9;c10;";
        due(eleven, 11);
        due(eleven + "c11;", -2034);
        ChairTooFew x = new ChairTooFew();
        for (int w = 0; w < 11; w++) x.walker(w, 0, 50);
        due(x, "w11,0,50;w12,0,50;", -2009);
        is("neither came", x.count(2), 11);
        due(x, "w11,0,50;", 1);
        due(x, "w12,0,50;", -2000);
        for (int c = 0; c < 11; c++) x.chair(c);
        due(x, "c20;", -2000);
        due(x, "f0;c20;", -2003);
    }

    // "n: CHAIRS or WALKERS are there"
    private static void sizeWithChairsOrWalkers() {
        due("n30;n24;", 2);
        due("c0;n24;", -2003);
        due("w0,0,50;n24;", -2008);
        due("p0,5;f1;n24;", 3);
        ChairTooFew chair = new ChairTooFew();
        chair.chair(3);
        due(chair, "n24;", -2000);
        ChairTooFew walker = new ChairTooFew();
        walker.walker(3, 0, 50);
        due(walker, "n24;", -2000);
        ChairTooFew neither = new ChairTooFew();
        neither.player(2, 7);
        neither.film(23);
        due(neither, "n4;", 1);
        is("N", neither.count(0), 4);
        is("the FILM stays", neither.count(7), 1);
    }

    // "that, behind all ahead of it in the text, is not as it must be"
    private static void behindAllAheadOfIt() {
        due("n60;c59;", 2);
        due("c59;", -2000);
        due("n4;c4;", -2003);
        due("n4;c3;c3;", -2006);
        due("n4;w0,0,5;w1,0,5;w2,0,5;w3,0,5;w4,0,5;", -2031);
        due("n30;n4;c29;", -2007);
        due("n4;n30;c29;", 3);
    }

    // "the place of the letter of the first STATEMENT"
    private static void letterOfTheFirst() {
        due("f9;f9;", -2000);
        due("f0;f9;f9;", -2003);
        due("f0;n100;p9,9;", -2003);
        due("n10;w9,0,99;c9;c0;f0;p4,99;c9;", -2000 - 27);
        StringBuilder s = new StringBuilder();
        while (s.length() < 60) s.append("f0;");
        due(s + "f3;", -2060);
    }

    // "else kind 2"
    private static void kindOneIsAhead() {
        due("f9;x", -1003);
        due("f9;f", -1004);
        due("c99;c99;c0", -1010);
        due("n99;;", -1004);
    }

    // "Without FAULT all of it comes, with one nothing."
    private static void allOfItOrNothing() {
        ChairTooFew x = new ChairTooFew();
        due(x, "n12;c11;w0,3,9;w5,6,98;p3,44;f2;", 6);
        is("N", x.count(0), 12);
        is("a CHAIR", x.has(11) + x.count(1), 2);
        is("WALKERS", x.count(2), 2);
        int[] of = {5, 0, 1, 6, 98, 49};
        for (int what = 0; what < 6; what++) is("of 1", x.of(1, what), of[what]);
        is("REACH", x.set(1, 2, 0), 9);
        is("SIZE", x.set(1, 3, 0), 5);
        is("MANNERS", x.set(1, 4, 0), 5);
        is("FORM", x.form(0), 2);
        x.row(44);
        is("FIGURE", x.could() & 16, 16);
        is("KIND", x.player(0, 1), 3);
        String[] ends = {"f3;", "x", "c11", "c11;", "p0,0;", "n12;"};
        for (String end : ends) {
            ChairTooFew y = new ChairTooFew();
            is("FAULT of " + end, Twin.read(y, "n12;c11;w0,3,9;p3,44;f2;" + end) <= -1000 ? 1 : 0, 1);
            Twin.alike(DUE, "nothing of it came, for " + end, y, new ChairTooFew());
        }
    }

    // "(nothing is counted)"
    private static void nothingIsCounted() {
        ChairTooFew x = new ChairTooFew();
        String[] texts = {"", "x", "c24;", "c0;c0;", "w0,7,5;", "w0,0,0;", "w0,0,100;", "p9,1;", "p0,0;", "f7;", "n2;", "n"};
        for (String text : texts) {
            is("FAULT of " + text, Twin.read(x, text) <= -1000 ? 1 : 0, 1);
            for (int c = 11; c <= 16; c++) is("no refusal by " + text, x.count(c), 0);
        }
    }

    // "The TEXT, which has none then"
    private static void noneThen() {
        ChairTooFew x = new ChairTooFew();
        due(x, "c0;", 1);
        is("no TEXT", x.party(), -1000);
        due(x, "c0;", -2000);
        is("no TEXT", x.party(), -1000);
        due(x, "c0", -1002);
        is("no TEXT", x.party(), -1000);
        is("room for 64 again", Twin.feed(x, "f0;f0;f0;f0;f0;f0;f0;f0;f0;f0;f0;f0;f0;f0;f0;f0;f0;f0;f0;f0;f0;f"), 64);
    }
}
