/** The example of README.md, with the answers that stand beside it there: the two change together. */
public final class ReadmeTest {
    private ReadmeTest() {
    }

    public static void main(String[] args) {
        example();
        Due.end();
    }

    private static void example() {
        ReplayDesk desk = new ReplayDesk();
        Due.is("emit(8, 0, 0)", 0, desk.emit(8, 0, 0));
        Due.is("emit(1, 1, 0)", 1, desk.emit(1, 1, 0));
        Due.is("emit(7, 1, 0)", 2, desk.emit(7, 1, 0));
        Due.is("emit(6, 0, 0)", 3, desk.emit(6, 0, 0));

        int question = desk.start();
        int five = desk.answer(question, 5);
        int six = desk.answer(question, 6);
        int more = desk.answer(five, 20);
        Due.is("question", 0, question);
        Due.is("five", 1, five);
        Due.is("six", 2, six);
        Due.is("more", 3, more);

        Due.is("kind(question)", 2, desk.kind(question));
        Due.is("said(more)", 2, desk.said(more));
        Due.is("lastSaid(more, 0)", 25, desk.lastSaid(more, 0));
        Due.is("lastSaid(more, 1)", 5, desk.lastSaid(more, 1));
        Due.is("difference(five, six)", 3, desk.difference(five, six));
        Due.is("forget(five)", true, desk.forget(five));
        Due.is("moments()", 13, desk.moments());
        Due.is("peek(more, 1)", 25, desk.peek(more, 1));
    }
}
