/** Promises 25 to 27, 29 and 30: rows of stops and films. */
public final class RowsTest {
    private static final Due DUE = new Due("RowsTest");

    public static void main(String[] args) {
        rows();
        could();
        next();
        films();
        judging();
        DUE.end();
    }

    private static void rows() {
        ChairTooFew x = new ChairTooFew();
        DUE.is("25: least", x.row(1), 1);
        DUE.is("25: greatest", x.row(300), 2);
        DUE.is("25: below", x.row(0), -4);
        DUE.is("25: above", x.row(301), -6);
        DUE.is("25: they stay out", x.count(6), 2);
        for (int i = 3; i <= 16; i++) DUE.is("25: more", x.row(1), i);
        DUE.is("25: no room", x.row(1), -6);
        DUE.is("25: below, ahead of no room", x.row(-1), -4);
        DUE.is("25: how many", x.count(6), 16);
        DUE.is("25: REFUSALS", x.count(14) * 10 + x.count(16), 22);
        DUE.is("27: makes room", x.next(1), 93);
        DUE.is("25: anew", x.row(9), 1);
    }

    private static int couldBy(int figure, int... tenths) {
        ChairTooFew x = new ChairTooFew();
        x.player(0, figure);
        for (int tenth : tenths) x.row(tenth);
        int could = x.could();
        DUE.is("26: the ROW stays", x.count(6), tenths.length);
        DUE.is("26: twice the same", x.could(), could);
        return could;
    }

    private static void could() {
        int even = 1;
        int phrase = 2;
        int late = 4;
        int liking = 8;
        int told = 16;
        DUE.is("26: none told", couldBy(10), even + phrase + late + liking + told);
        DUE.is("26: 8", couldBy(9, 8), even + phrase + liking);
        DUE.is("26: 8 by 8", couldBy(8, 8), even + phrase + late + liking + told);
        DUE.is("26: 8 by 7", couldBy(7, 8), even + phrase + late + liking);
        DUE.is("26: 9", couldBy(10, 9), even + liking);
        DUE.is("26: all of them", couldBy(8, 8, 16, 9), even + late + liking);
        DUE.is("26: all of them", couldBy(8, 8, 8, 8), even + phrase + late + liking + told);
        DUE.is("26: one is too soon", couldBy(8, 80, 7), even + liking);
        DUE.is("26: the 300th", couldBy(99, 300), even + phrase + late + liking);
        DUE.is("26: the 299th", couldBy(99, 299), even + late + liking);
        DUE.is("26: the 300th with others", couldBy(99, 300, 96), even + phrase + liking);
        DUE.is("26: the 300th not by TOLD", couldBy(99, 99, 300), even + late + liking);
        DUE.is("26: the first", couldBy(1, 1), even + late + liking + told);
        ChairTooFew x = new ChairTooFew();
        x.row(40);
        x.player(3, 40);
        DUE.is("26: FIGURE as it is", x.could(), even + phrase + late + liking + told);
        x.player(4, 41);
        DUE.is("26: FIGURE as it is", x.could(), even + phrase + liking);
    }

    private static void next() {
        ChairTooFew x = new ChairTooFew();
        DUE.is("27: it has none", x.next(5), -3);
        DUE.is("27: below, ahead of none", x.next(0), -4);
        DUE.is("27: above, ahead of none", x.next(301), -6);
        x.row(7);
        x.row(9);
        x.row(8);
        DUE.is("27: below", x.next(-1), -4);
        DUE.is("27: above", x.next(301), -6);
        DUE.is("27: the ROW stayed", x.count(6), 3);
        DUE.is("27: cut", x.next(8), 66);
        DUE.is("27: the ROW has none then", x.count(6), 0);
        DUE.is("27: it has none", x.next(8), -3);
        x.row(7);
        DUE.is("27: none of it", x.next(6), 0);
        x.row(300);
        DUE.is("27: all of it", x.next(300), 100);
        x.row(5);
        x.row(5);
        x.row(6);
        DUE.is("27: no more than", x.next(5), 66);
    }

    private static void films() {
        ChairTooFew x = new ChairTooFew();
        DUE.is("29: least", x.film(0), 1);
        DUE.is("29: greatest", x.film(23), 2);
        DUE.is("29: no place", x.film(24), -1);
        DUE.is("29: no place below", x.film(-1), -1);
        for (int i = 3; i <= 60; i++) DUE.is("29: more", x.film(i % 24), i);
        DUE.is("29: no room", x.film(0), -6);
        DUE.is("29: no place, ahead of no room", x.film(60), -1);
        DUE.is("29: how many", x.count(7), 60);
    }

    private static void judging() {
        ChairTooFew x = new ChairTooFew();
        x.chair(5);
        x.walker(4, 0, 60);
        x.walker(9, 0, 50);
        // Parts: 60; 120 is 5 and 20; by SLOW 30: 50, 80, 110 is 6 and 10.
        int[] places = {4, 5, 5, 5, 6};
        for (int place : places) x.film(place);
        DUE.is("30: all right", x.judge(0), -9);
        DUE.is("30: it has none then", x.count(7), 0);
        DUE.is("30: an empty one", x.judge(0), -9);
        for (int wrong = 0; wrong < 5; wrong++) {
            for (int i = 0; i < 5; i++) x.film(i == wrong ? 20 : places[i]);
            DUE.is("30: the first that is wrong", x.judge(0), wrong);
        }
        x.film(4);
        x.film(4);
        x.film(4);
        DUE.is("30: nobody", x.judge(2), -1);
        DUE.is("30: nobody below", x.judge(-1), -1);
        DUE.is("30: it stays", x.count(7), 3);
        DUE.is("30: the first of two", x.judge(0), 1);
        x.film(9);
        x.film(10);
        DUE.is("30: of another", x.judge(1), -9);
        x.player(4, 1);
        for (int place : places) x.film(place);
        DUE.is("30: THE PLAYER never stops", x.judge(0), -9);
        DUE.is("30: nothing went by", x.of(0, 0) * 100 + x.of(0, 1), 400);
        x.player(4, 90);
        x.go(2);
        x.film(5);
        x.film(5);
        x.film(6);
        DUE.is("30: from now", x.judge(0), -9);
        x.set(1, 2, 0);
        x.stop();
        x.film(5);
        DUE.is("30: not IN", x.judge(1), -1);
        DUE.is("30: it stays", x.count(7), 1);
    }
}
