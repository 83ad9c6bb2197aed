/** Promises 2 and 3: texts that come, and parties that are read from them. */
public final class TextTest {
    private static final Due DUE = new Due("TextTest");

    public static void main(String[] args) {
        feeding();
        reading();
        misfits();
        impossibles();
        allOrNothing();
        goingOn();
        DUE.end();
    }

    /** Feeds a text by pieces of so many bytes, and reads it. */
    private static int read(ChairTooFew x, String text, int piece) {
        for (int from = 0; from < text.length(); from += piece) {
            int n = Math.min(piece, text.length() - from);
            long bytes = n < 8 ? -1L << (8 * n) : 0;
            for (int i = 0; i < n; i++) bytes |= (long) (text.charAt(from + i) & 255) << (8 * i);
            DUE.is("2: feed of " + text, x.feed(n, bytes), from + n);
        }
        return x.party();
    }

    private static void due(ChairTooFew x, String text, int want) {
        DUE.is("3: party() of " + text, read(x, text, 8), want);
        DUE.is("3: the TEXT has none then, behind " + text, x.count(8), 0);
    }

    private static void due(String text, int want) {
        due(new ChairTooFew(), text, want);
    }

    private static void feeding() {
        ChairTooFew x = new ChairTooFew();
        DUE.is("2: below", x.feed(0, 5), -4);
        DUE.is("2: below", x.feed(-8, 5), -4);
        DUE.is("2: above", x.feed(9, 5), -6);
        DUE.is("2: above", x.feed(Integer.MAX_VALUE, 5), -6);
        DUE.is("2: least", x.feed(1, 5), 1);
        for (int i = 1; i < 8; i++) DUE.is("2: eight", x.feed(8, 5), 1 + 8 * i);
        DUE.is("2: above 64", x.feed(8, 5), -6);
        DUE.is("2: it stayed", x.count(8), 57);
        DUE.is("2: 64 are room", x.feed(7, 5), 64);
        DUE.is("2: above 64", x.feed(1, 5), -6);
        DUE.is("2: below, ahead of above 64", x.feed(0, 5), -4);
        DUE.is("2: REFUSALS", x.count(14) * 10 + x.count(16), 34);
        DUE.is("3: nothing that goes on", x.party(), -1000);
        DUE.is("2: empty again", x.feed(8, 5), 8);
    }

    private static void reading() {
        for (int piece = 1; piece <= 8; piece++) {
            ChairTooFew x = new ChairTooFew();
            DUE.is("3: by " + piece, read(x, "n12;c0;c11;w3,6,99;w4,0,1;p2,45;f1;", piece), 7);
            DUE.is("3: N", x.count(0), 12);
            DUE.is("3: CHAIRS", x.count(1), 2);
            DUE.is("3: at 0", x.has(0), 1);
            DUE.is("3: at 11", x.has(11), 1);
            DUE.is("3: no place", x.has(12), -1);
            DUE.is("3: WALKERS", x.count(2), 2);
            int[] first = {3, 0, 1, 6, 99, 49};
            int[] second = {4, 0, 1, 0, 1, 1};
            for (int what = 0; what < 6; what++) {
                DUE.is("3: of 0", x.of(0, what), first[what]);
                DUE.is("3: of 1", x.of(1, what), second[what]);
            }
            DUE.is("3: REACH", x.set(1, 2, 1), 9);
            DUE.is("3: SIZE", x.set(1, 3, 1), 5);
            DUE.is("3: MANNERS", x.set(1, 4, 1), 5);
            x.row(45);
            DUE.is("3: FIGURE", x.could() & 16, 16);
            DUE.is("3: KIND", x.player(0, 1), 2);
            DUE.is("3: FORM", x.form(0), 1);
        }
        due("n4;", 1);
        due("n60;", 1);
        due("p0,1;p4,99;f0;f2;n60;c59;w59,0,1;", 7);
        due("c0;c1;c2;c3;c4;c5;c6;c7;c8;c9;c10;", 11);
        due("n9;n5;c4;", 3);
    }

    private static void misfits() {
        due("", -1000);
        String[] parts = {"n", "n1", "n12", "n12;c", "w", "w3", "w3,", "w3,0", "w3,0,", "w3,0,5", "p", "p0", "p0,", "p0,9",
            "f", "f0"};
        for (String part : parts) due(part, -1000 - part.length());
        due("x", -1000);
        due(";", -1000);
        due("0;", -1000);
        due("n;", -1001);
        due("n,", -1001);
        due("n-5;", -1001);
        due("n12,", -1003);
        due("n012;", -1002);
        due("n00;", -1002);
        due("c01;", -1002);
        due("c0x", -1002);
        due("n1234;", -1004);
        due("c100,", -1004);
        due("w3;", -1002);
        due("w03,0,5;", -1002);
        due("w3,,5;", -1003);
        due("w3,10,5;", -1004);
        due("w3,00,5;", -1004);
        due("w3,0,05;", -1006);
        due("w3,0,;", -1005);
        due("w3,0,5,", -1006);
        due("w3,0;", -1004);
        due("p10,5;", -1002);
        due("p,5;", -1001);
        due("p0;", -1002);
        due("p0,1000;", -1006);
        due("f;", -1001);
        due("f10;", -1002);
        due("f00;", -1002);
        due("f0,", -1002);
        due("n12;;", -1004);
        due("n12; c0;", -1004);
        due("c0;C1;", -1003);
        due("c0\0", -1002);
        due("c0;\u00f3", -1003);
        due("n\u00b2;", -1001);
        due("c0;c0;c0;x", -1009);
        due("n999;c0;w", -1009);
        // No room for what lacks: 64 bytes, the last without ";".
        String full = "f0;f0;f0;f0;f0;f0;f0;f0;f0;f0;f0;f0;f0;f0;f0;f0;f0;f0;f0;f0;f0;";
        due(full, 21);
        due(full + "f", -1064);
    }

    private static void impossibles() {
        due("n3;", -2000);
        due("n61;", -2000);
        due("n0;", -2000);
        due("f0;n999;", -2003);
        due("c24;", -2000);
        due("n30;c24;c29;c30;", -2012);
        due("c5;c5;", -2003);
        due("c5;n24;", -2003);
        due("w5,0,5;n24;", -2007);
        due("c0;c1;c2;c3;c4;c5;c6;c7;c8;c9;c10;c11;", -2034);
        due("w24,0,5;", -2000);
        due("w5,7,5;", -2000);
        due("w5,9,5;", -2000);
        due("w5,0,0;", -2000);
        due("w5,0,100;", -2000);
        due("w5,0,99;w5,0,99;", -2008);
        due("w5,0,99;w6,0,99;c5;c6;", 4);
        due("p5,5;", -2000);
        due("p0,0;", -2000);
        due("p0,100;", -2000);
        due("f3;", -2000);
        due("f2;f9;", -2003);
        // The first of several.
        due("f0;c99;c98;f9;", -2003);
        due("c99;c9", -1006);
        ChairTooFew x = new ChairTooFew();
        x.walker(1, 0, 5);
        due(x, "n24;", -2000);
        due(x, "w1,0,5;", -2000);
        DUE.is("3: nothing is counted", x.count(11) + x.count(13) + x.count(14) + x.count(16), 0);
        for (int i = 2; i <= 11; i++) x.walker(i, 0, 5);
        due(x, "w20,0,5;w21,0,5;", -2008);
        due(x, "w20,0,5;", 1);
        due(x, "w21,0,5;", -2000);
        ChairTooFew gone = new ChairTooFew();
        gone.chair(0);
        gone.walker(0, 0, 5);
        gone.walker(9, 0, 5);
        gone.walker(12, 0, 5);
        gone.stop();
        due(gone, "w12,0,5;", 1);
        due(gone, "w9,0,5;", -2000);
    }

    private static void allOrNothing() {
        ChairTooFew x = new ChairTooFew();
        due(x, "n40;c1;w2,0,5;p3,7;f2;c1;", -2022);
        DUE.is("3: N stays", x.count(0), 24);
        DUE.is("3: no CHAIR", x.count(1), 0);
        DUE.is("3: no WALKER", x.count(2), 0);
        DUE.is("3: KIND stays", x.player(0, 10), 0);
        DUE.is("3: FORM stays", x.form(0), 0);
        due(x, "n40;c1;x", -1007);
        DUE.is("3: N stays", x.count(0), 24);
        due(x, "c1;", 1);
        due(x, "c2;w1,0,5;", 2);
        DUE.is("3: they come to those that are there", x.count(1), 2);
    }

    private static void goingOn() {
        ChairTooFew x = new ChairTooFew();
        due(x, "c0;c12;w0,0,50;w12,0,50;p4,1;", 5);
        DUE.is("3: all sit", x.go(5), 2);
        due(x, "p4,1;f1;", 2);
        DUE.is("3: no more than a player", x.go(5), -3);
        due(x, "c7;", 1);
        DUE.is("3: a CHAIR lets it go on", x.go(5), 2);
        due(x, "c7;w4,0,50;", -2000);
        DUE.is("3: nothing came", x.go(5), -3);
        due(x, "w6,0,50;", 1);
        DUE.is("3: a WALKER lets it go on", x.go(5), 2);
        DUE.is("3: ROUNDS stay", x.count(5), 3);
    }
}
