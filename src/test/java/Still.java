import java.util.HashMap;
import java.util.List;
import java.util.Map;

/** Tells whether a call leaves a yard as it was: beside each yard with the call one without it is looked at. */
final class Still {
    private final Due due;
    private final Map<String, List<Long>> before = new HashMap<>();

    Still(Due due) {
        this.due = due;
    }

    /** In a yard made by these calls, a call gives this answer and changes nothing but, maybe, count() 8 to a finding. */
    void keeps(String made, String call, long answer, int finding) {
        int promise = Face.promise(call);
        for (int part = 0; part < Look.PARTS; part++) {
            TopYard yard = new TopYard();
            Face.calls(yard, made);
            due.is(promise, "count(8) before " + call, yard.count(8), findingBefore(made));
            long got = Face.call(yard, call);
            due.is(promise, call + " in a yard of: " + made, got, answer);
            due.is(promise, "count(8) behind " + call, yard.count(8), finding == 0 ? findingBefore(made) : finding);
            List<Long> left = Look.at(yard, part);
            boolean alike = left.equals(before(made, part));
            due.is(promise, call + " changes nothing of part " + part, alike ? 1 : 0, 1);
        }
    }

    /** A call that asks only: its answer is tested elsewhere. */
    void asks(String made, String call) {
        TopYard yard = new TopYard();
        Face.calls(yard, made);
        keeps(made, call, Face.call(yard, call), 0);
    }

    private int findingBefore(String made) {
        return (int) before(made, -1).get(0).longValue();
    }

    private List<Long> before(String made, int part) {
        return before.computeIfAbsent(part + ":" + made, key -> {
            TopYard yard = new TopYard();
            Face.calls(yard, made);
            return part < 0 ? List.of((long) yard.count(8)) : Look.at(yard, part);
        });
    }
}
