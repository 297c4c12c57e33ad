import java.util.ArrayList;
import java.util.List;

/** What is only asked changes nothing: each answer is the same whatever was asked ahead of it. */
public final class AnyOrderTest {
    private static final Checks CHECKS = new Checks("AnyOrderTest");

    private static List<Bounds.Call> questions() {
        List<Bounds.Call> list = new ArrayList<>();
        list.add(AfterOffice::place);
        list.add(office -> office.letter(1, 3));
        list.add(office -> office.dies(2, 59));
        list.add(office -> office.fee(0, 59));
        list.add(office -> office.clerk(59));
        list.add(office -> office.barred(1, 1));
        list.add(office -> office.fact(4, 2));
        list.add(office -> office.weighs(0, 59, 5));
        list.add(office -> office.run(1, 5, 1, 1));
        list.add(office -> office.run(0, 5, 20, 2));
        list.add(office -> office.run(0, 0, 1, 0));
        list.add(office -> office.opened(7, 5, 0));
        list.add(office -> office.why(0, 5, 5));
        list.add(office -> office.why(1, 6, 5));
        list.add(office -> office.harm(6));
        list.add(office -> office.tooSoon(5));
        list.add(office -> office.tooSoon(3));
        list.add(office -> office.wrong(59, 5, 0));
        list.add(office -> office.wrong(4, 3, 1));
        list.add(office -> office.late(0, 5, 20));
        list.add(office -> office.watch(5, 2));
        list.add(office -> office.gain(5, 4));
        list.add(office -> office.income(5, 0, 59));
        list.add(office -> office.next(6, 5));
        list.add(office -> office.looks(5, 1));
        list.add(office -> office.looks(5, 2));
        list.add(office -> office.looks(0, 2));
        list.add(office -> office.need(1, 0, 0, 0, 2));
        list.add(office -> office.asks(1));
        list.add(office -> office.ring(1));
        list.add(AfterOffice::rings);
        list.add(AfterOffice::burn);
        list.add(office -> office.future(0, 7, 0, 0, 0));
        list.add(office -> office.future(1, 7, 0, 1, 1));
        list.add(office -> office.lives(0, 52, 8));
        list.add(office -> office.odds(1, 0, 2));
        list.add(office -> office.life(7, 1, 4));
        list.add(office -> office.life(7, 100, 1));
        list.add(office -> office.chance(0, 7, 9, 1));
        list.add(office -> office.count(5));
        return list;
    }

    /* The usual office, with a sixth fact: letter m is opened by hand in year 6, ahead of its condition. */
    private static AfterOffice made() {
        AfterOffice office = Bounds.usual();
        office.early(6, 1);
        return office;
    }

    public static void main(String[] args) {
        CHECKS.sentence("the same calls always give the same answers");
        List<Bounds.Call> questions = questions();
        for (int i = 0; i < questions.size(); i++) {
            long due = questions.get(i).on(made());
            for (int j = 0; j < questions.size(); j++) {
                AfterOffice office = made();
                questions.get(j).on(office);
                CHECKS.same("question " + i + " behind question " + j, questions.get(i).on(office), due);
            }
        }
        AfterOffice asked = made();
        for (Bounds.Call question : questions) {
            question.on(asked);
        }
        CHECKS.same("all behind all questions", State.of(asked), State.of(made()));
        CHECKS.end();
    }
}
