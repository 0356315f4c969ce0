/** Promises 24 to 26: what an image keeps. */
final class ImagesTest {
    public static void main(String[] args) {
        keeping();
        keptTwice();
        emptyImage();
        Due.end();
    }

    private static CoatPockets full() {
        CoatPockets x = new CoatPockets();
        Due.school(x, "012h3,34,5h1");
        x.thing(0, 0);
        x.thing(1, 3);
        x.thing(2, 0);
        x.thing(3, 5);
        x.thing(2, 7);
        Due.day(x, "p0>0;p1>1;p2>0;p3>2");
        x.owe(0, 1, 33);
        x.owe(6, 7, 44);
        x.seed(0);
        x.bell();
        return x;
    }

    private static String told(CoatPockets x) {
        StringBuilder all = new StringBuilder();
        for (int t = 0; t < 8; t++) {
            all.append(x.where(t)).append('/').append(x.told(t, 0)).append('/').append(x.told(t, 1)).append('/')
                .append(x.told(t, 2)).append(' ');
        }
        for (int c = 0; c < 4; c++) {
            for (int what = 0; what < 9; what++) {
                all.append(x.of(c, what)).append(',');
            }
        }
        for (int what = 0; what < 6; what++) {
            all.append(x.count(what)).append(';');
        }
        for (int boy = 0; boy < 8; boy++) {
            all.append(x.balance(boy)).append(':');
        }
        int draw = x.seed(0);
        x.seed(draw);
        return all.append(draw).toString();
    }

    private static void change(CoatPockets x) {
        Due.school(x, "7h2,65,43");
        x.hole(1, 2);
        x.coat(2, 1, 3);
        x.thing(0, 7);
        x.owe(0, 1, 1);
        x.owe(3, 1, 999);
        x.put(5, 0);
        x.put(4, 0);
        x.bell();
        x.seed(4);
    }

    private static void keeping() {
        CoatPockets x = full();
        Due.due("restore() of none", x.restore(), -4);
        Due.due("all is left then", told(x).equals(told(full())));
        x.sheet(0, 2, 3);
        Due.type(x, "0");
        Due.due("image()", x.image(), 1);
        String was = told(x);
        change(x);
        Due.due("all is other", !told(x).equals(was));
        x.sheet(0, 1, 5);
        Due.due("the tape goes on", Due.type(x, "1,2"), 3);
        Due.due("restore()", x.restore(), 1);
        Due.due("all is as it was", told(x).equals(was));
        Due.due("the tape is not in it", x.school(), 2);
        Due.due("the sheets are not in it", x.drop(0), 5);
        Due.due("restore() again", x.restore(), 1);
        Due.due("all is as it was again", told(x).equals(was));
        x.bell();
        Due.due("acts leave the image", x.restore(), 1);
        Due.due("all is as it was once more", told(x).equals(was));
    }

    private static void keptTwice() {
        CoatPockets x = full();
        x.image();
        change(x);
        String was = told(x);
        Due.due("image() again", x.image(), 1);
        x.bell();
        x.owe(0, 1, 2);
        Due.due("restore() of the later one", x.restore(), 1);
        Due.due("all is as it was later", told(x).equals(was));
    }

    private static void emptyImage() {
        CoatPockets x = new CoatPockets();
        x.image();
        Due.school(x, "01");
        x.thing(0, 0);
        x.bell();
        x.owe(0, 1, 3);
        Due.due("restore()", x.restore(), 1);
        Due.due("all is new", told(x).equals(told(new CoatPockets())));
        Due.due("thing(2, 3)", x.thing(2, 3), 0);
        Due.due("coat(3, 1, 0)", x.coat(3, 1, 0), 0);
    }
}
