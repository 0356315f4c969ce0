/** Promise 25: image. */
final class Promise25Test {
    public static void main(String[] args) throws ReflectiveOperationException {
        Due.run(Promise25Test.class);
    }

    @Says("is kept as an IMAGE: 1.")
    static void promise25OfAnEmptySchool() {
        CoatPockets x = new CoatPockets();
        String was = Due.seen(x);
        Due.due("image()", x.image(), 1);
        Due.unchanged("image", x, was);
        Due.school(x, "01h1,2");
        Due.due("thing(2, 0)", x.thing(2, 0), 0);
        x.put(0, 0);
        x.bell();
        x.owe(0, 1, 3);
        Due.due("restore()", x.restore(), 1);
        Due.unchanged("restore", x, was);
        Due.due("thing(1, 3)", x.thing(1, 3), 0);
        Due.due("coat(3, 1, 0)", x.coat(3, 1, 0), 0);
    }

    @Says("is kept as an IMAGE: 1.")
    static void promise25OfAFullSchool() {
        CoatPockets x = Due.of("0123h3,1234,2345h1,3456h2");
        for (int t = 0; t < 8; t++) {
            x.thing(t % 4, t / 2);
            x.put(t, t / 2);
        }
        for (int boy = 0; boy < 8; boy++) {
            x.owe(boy, (boy + 1) % 8, 999 - boy);
        }
        x.bell();
        String was = Due.seen(x);
        Due.due("image()", x.image(), 1);
        Due.school(x, "7");
        x.bell();
        x.owe(0, 1, 0);
        x.restore();
        Due.unchanged("restore", x, was);
        Due.due("a fifth coat", x.coat(0, 1, 0), -3);
        Due.due("a ninth thing", x.thing(0, 0), -3);
    }

    @Says("All but SHEETS, THE TAPE is kept")
    static void promise25LaterOneInPlaceOfTheFirst() {
        CoatPockets x = Due.of("012", 0, 2, 1);
        x.image();
        Due.day(x, "p0>0;b;b");
        x.owe(0, 1, 5);
        String was = Due.seen(x);
        Due.due("image() again", x.image(), 1);
        x.bell();
        x.restore();
        Due.unchanged("restore of the later one", x, was);
    }

    @Says("All but SHEETS, THE TAPE is kept")
    static void promise25WhatComesBehindIsNotInIt() {
        CoatPockets x = Due.of("01,12", 0, 0, 2);
        Due.due("image()", x.image(), 1);
        String was = Due.seen(x);
        x.hole(0, 3);
        Due.day(x, "p0>0;p1>0;b;b");
        x.thing(3, 3);
        x.coat(5, 1, 1);
        x.owe(2, 3, 4);
        x.seed(8);
        x.restore();
        Due.unchanged("restore", x, was);
        Due.due("owe(2, 3, 0)", x.owe(2, 3, 0), 0);
    }
}
