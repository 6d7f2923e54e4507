/** Promises 40 to 44: costs, images, what was refused. */
public final class CostsAndImagesTest {
    private static final long MOST = Long.MAX_VALUE;

    public static void main(String[] args) {
        cost();
        bill();
        images();
        imagesLeaveOut();
        status();
        Check.finish("CostsAndImagesTest");
    }

    private static void cost() {
        StreetNames x = Check.of("street rose;street a;street abcdefghij;house rose left 0 1;house rose left 1 3;"
            + "house rose right 0 2;house a left 0 1;");
        Check.due("3 houses, 4 letters", x.cost(0, 10), 120);
        Check.due("rate 0", x.cost(0, 0), 0);
        Check.due("no houses", x.cost(2, MOST), 0);
        Check.due("one letter", x.cost(1, MOST), MOST);
        Check.due("as much as goes", x.cost(0, MOST / 12), MOST / 12 * 12);
        Check.due("one more", x.cost(0, MOST / 12 + 1), -2);
        Check.due("most", x.cost(0, MOST), -2);
        Check.due("rate -1", x.cost(0, -1), -1);
        Check.due("least rate", x.cost(0, Long.MIN_VALUE), -1);
        Check.due("no street", x.cost(3, 1), -1);
        Check.due("no street", x.cost(-1, 1), -1);
    }

    private static void bill() {
        StreetNames x = Check.of("street mill;street milk;street hazel;street hasel;pool bay yew;house mill left 0 1;"
            + "house mill left 1 3;house milk left 0 1;house milk left 1 3;house milk left 2 5;house hazel left 0 1;"
            + "house hasel left 0 1;");
        // mill has 2 houses, hazel 1: 8 and 5 letters
        Check.due("plan", x.plan(2), 0b0101);
        Check.due("bill", x.bill(10), 130);
        Check.due("rate 0", x.bill(0), 0);
        Check.due("as much as goes", x.bill(MOST / 13), MOST / 13 * 13);
        Check.due("one more", x.bill(MOST / 13 + 1), -2);
        Check.due("most", x.bill(MOST), -2);
        Check.due("below 0", x.bill(-1), -1);
        Check.due("least", x.bill(Long.MIN_VALUE), -1);
        x.carry();
        Check.due("no clashes", x.bill(MOST), 0);
        Check.due("below 0 without clashes", x.bill(-5), -1);
        x = Check.of("street mill;street milk;house mill left 0 1;");
        Check.due("no plan", x.bill(1), -1);
    }

    private static void images() {
        StreetNames x = Check.of("near 2;last 3;step 4;mute h;same ab;pair ph f;street oak;street elm;alias old of oak;"
            + "pool bay;house oak left 8 5;");
        Check.due("nothing kept", x.back(0), false);
        Check.due("keep(0)", x.keep(0), true);
        x.years(2);
        x.take(0, 0);
        x.build(0, 1, 0);
        Check.due("keep(1)", x.keep(1), true);
        Check.due("another town", Check.town(x, "street phab;"), 1);
        Check.due("back(0)", x.back(0), true);
        int[] due = {2, 1, 1, 1, 0, 2, 3, 4, 1, 1, 1, 0};
        for (int what = 0; what < due.length; what++) {
            Check.due("has(" + what + ") of image 0", x.has(what), due[what]);
        }
        Check.same("name", Check.name(x, 0, 0), "oak");
        Check.due("the rules too", Check.heard(x, "phab"), 2);
        Check.due("house", x.house(0, 0, 2), 5);
        Check.due("back(1)", x.back(1), true);
        int[] then = {2, 1, 2, 2, 2, 2, 3, 4, 1, 1, 1, 0};
        for (int what = 0; what < then.length; what++) {
            Check.due("has(" + what + ") of image 1", x.has(what), then[what]);
        }
        Check.same("name", Check.name(x, 0, 0), "bay");
        Check.due("nothing can be undone", x.undo(), false);
        x.years(1);
        Check.due("back again", x.back(1), true);
        Check.due("year", x.has(4), 2);
        Check.due("no acts", x.has(11), 0);
        x.years(1);
        Check.due("kept anew", x.keep(1), true);
        x.years(1);
        Check.due("keep leaves acts", x.has(11), 2);
        x.back(1);
        Check.due("year", x.has(4), 3);
    }

    private static void imagesLeaveOut() {
        StreetNames x = Check.of("street oak;");
        x.keep(0);
        Check.heard(x, "elm");
        Check.town(x, "street oak");
        Check.write(x, "yew");
        x.years(0);
        Check.due("back", x.back(0), true);
        Check.due("the fault stays", x.fault(0), 1);
        Check.due("its place", x.fault(1), 10);
        Check.due("what was heard stays", x.heardAt(0), 5);
        Check.due("what was refused stays", x.status(2), 1);
        Check.due("the tape stays", x.end(3), true);
        Check.due("the tape stays", x.find(), -1);
        Check.due("town refused", x.status(1), 1);
    }

    private static void status() {
        StreetNames x = Check.of("street oak;");
        Check.due("keep(2)", x.keep(2), false);
        Check.due("keep(-1)", x.keep(-1), false);
        Check.due("back(2)", x.back(2), false);
        Check.due("back(-1)", x.back(-1), false);
        Check.due("back(1), nothing kept", x.back(1), false);
        Check.due("status(4)", x.status(4), 5);
        x.end(1);
        Check.due("status(0)", x.status(0), 1);
        Check.town(x, "x");
        Check.town(x, "x");
        Check.due("status(1)", x.status(1), 2);
        x.take(0, 0);
        x.renumber(1);
        x.build(1, 0, 0);
        x.tear(0, 0);
        x.years(0);
        Check.due("status(2)", x.status(2), 5);
        x.undo();
        Check.due("status(3)", x.status(3), 1);
        Check.due("status(5)", x.status(5), -1);
        Check.due("status(-1)", x.status(-1), -1);
        Check.due("status(least)", x.status(Integer.MIN_VALUE), -1);
        // questions that answer NONE are not refused
        x.would(5, 5, 5);
        x.then(5, 5);
        x.find();
        x.plan(9);
        Check.due("status(2) stays", x.status(2), 5);
    }
}
