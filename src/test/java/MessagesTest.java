/** Promises 3, 4, 5 and 17: sending, delivery, loss, and looking at a slot. */
public final class MessagesTest {
    private MessagesTest() {
    }

    public static void main(String[] args) {
        Checks.section("Promise 3");
        Checks.sentence("send(p, q): p sends its value to q.", MessagesTest::sendCarriesTheValue);
        Checks.sentence("p is bad, or q is bad, or p == q: BAD.", MessagesTest::sendBetweenBadProcesses);
        Checks.sentence("p is down: DOWN.", MessagesTest::sendWhileDown);
        Checks.sentence("(q may be down.)", MessagesTest::sendToAProcessThatIsDown);
        Checks.sentence("No slot is EMPTY: FULL.", MessagesTest::sendWithoutRoom);
        Checks.sentence("Otherwise the EMPTY slot with the least number gets an IN_TRANSIT message with sender p, "
                + "receiver q, payload = value of p, send interval = interval number of p.",
                MessagesTest::sendFillsTheLeastEmptySlot);
        Checks.sentence("Answers that slot's number (0 .. m-1).", MessagesTest::sendAnswersTheSlot);
        Checks.sentence("Nothing else changes; in particular the values and interval numbers of p and q stay.",
                MessagesTest::sendChangesNothingElse);
        Checks.section("Promise 4");
        Checks.sentence("deliver(slot): the message in the slot reaches its receiver r.",
                MessagesTest::deliverReachesTheReceiver);
        Checks.sentence("slot is bad: BAD.", MessagesTest::deliverOfABadSlot);
        Checks.sentence("The slot is not IN_TRANSIT (it is EMPTY or RECEIVED): NONE.",
                MessagesTest::deliverOfWhatIsNotInTransit);
        Checks.sentence("r is down: DOWN.", MessagesTest::deliverToAProcessThatIsDown);
        Checks.sentence("(The sender may be down.)", MessagesTest::deliverFromAProcessThatIsDown);
        Checks.sentence("Otherwise the value of r becomes 31 * value + payload, with int wrap-around, and the slot "
                + "becomes RECEIVED with receive interval = interval number of r; answers OK.",
                MessagesTest::deliverMixesThePayloadIn);
        Checks.sentence("The message stays in its slot with its sender, receiver, payload and send interval.",
                MessagesTest::deliverKeepsTheMessage);
        Checks.sentence("Nothing else changes.", MessagesTest::deliverChangesNothingElse);
        Checks.section("Promise 5");
        Checks.sentence("lose(slot): the network loses a message.", MessagesTest::loseForGood);
        Checks.sentence("slot is bad: BAD.", MessagesTest::loseOfABadSlot);
        Checks.sentence("The slot is not IN_TRANSIT (it is EMPTY or RECEIVED): NONE.",
                MessagesTest::loseOfWhatIsNotInTransit);
        Checks.sentence("Otherwise the slot becomes EMPTY; answers OK.", MessagesTest::loseEmptiesTheSlot);
        Checks.sentence("It does not matter who is up or down.", MessagesTest::loseWhoeverIsDown);
        Checks.sentence("No process and no other slot changes.", MessagesTest::loseChangesNothingElse);
        Checks.section("Promise 17");
        Checks.sentence("slot is bad, or what < 0, or what > 5: BAD.", MessagesTest::lookAtBadArguments);
        Checks.sentence("what is 0: the slot's state, EMPTY, IN_TRANSIT or RECEIVED.", MessagesTest::lookAtTheState);
        Checks.sentence("what is 1 to 5 and the slot is EMPTY: NONE.", MessagesTest::lookAtAnEmptySlot);
        Checks.sentence("1: the sender,", MessagesTest::lookAtTheSender);
        Checks.sentence("2: the receiver,", MessagesTest::lookAtTheReceiver);
        Checks.sentence("3: the payload (any int),", MessagesTest::lookAtThePayload);
        Checks.sentence("4: the send interval,", MessagesTest::lookAtTheSendInterval);
        Checks.sentence("5: the receive interval if the slot is RECEIVED, NONE if it is IN_TRANSIT.",
                MessagesTest::lookAtTheReceiveInterval);
        Checks.sentence("Nothing changes.", MessagesTest::lookingChangesNothing);
        Checks.section("Not promised");
        Checks.sentence("of messages in slots that have become EMPTY; none of it shows through the public face",
                MessagesTest::nothingShowsOfOldMessages);
        Checks.finish();
    }

    private static void sendCarriesTheValue() {
        for (int p = 0; p < 4; p++) {
            for (int step = 1; step < 4; step++) {
                int q = (p + step) % 4;
                Calls x = new RealCalls(4, 3, 4);
                Edges.setValue(x, p, 500);
                x.send(p, q);
                // The value that p had when it sent, whatever becomes of it.
                x.step(p, 1);
                x.deliver(0);
                Checks.due("value(" + q + ") by a message of " + p, x.value(q), 31 * (q + 1) + 500);
            }
        }
    }

    private static void sendBetweenBadProcesses() {
        for (int n = 2; n <= 4; n++) {
            Calls x = new RealCalls(n, 3, 4);
            for (int bad : Edges.badOf(n)) {
                for (int p = 0; p < n; p++) {
                    int good = p;
                    Checks.keepsAll(x, "send(" + bad + ", " + p + ")", () -> x.send(bad, good), RecoveryLine.BAD);
                    Checks.keepsAll(x, "send(" + p + ", " + bad + ")", () -> x.send(good, bad), RecoveryLine.BAD);
                }
                Checks.keepsAll(x, "send(" + bad + ", " + bad + ")", () -> x.send(bad, bad), RecoveryLine.BAD);
                Checks.keepsAll(x, "send(" + bad + ", -1)", () -> x.send(bad, -1), RecoveryLine.BAD);
            }
            for (int p = 0; p < n; p++) {
                int same = p;
                Checks.keepsAll(x, "send(" + p + ", " + p + ")", () -> x.send(same, same), RecoveryLine.BAD);
            }
        }
    }

    private static void sendWhileDown() {
        for (int p = 0; p < 3; p++) {
            int down = p;
            int other = (p + 1) % 3;
            Calls x = new RealCalls(3, 3, 4);
            x.crash(p);
            Checks.keepsAll(x, "send(" + p + ", ..) while down", () -> x.send(down, other), RecoveryLine.DOWN);
            x.crash(other);
            Checks.keepsAll(x, "send(" + p + ", ..), both down", () -> x.send(down, other), RecoveryLine.DOWN);
            x.recover();
            Checks.due("send(" + p + ", ..) up again", x.send(p, other), 0);
        }
    }

    private static void sendToAProcessThatIsDown() {
        Calls x = new RealCalls(3, 3, 4);
        x.crash(1);
        x.crash(2);
        Checks.due("send(0, 1)", x.send(0, 1), 0);
        Checks.due("send(0, 2)", x.send(0, 2), 1);
        Checks.slotIs(x, 0, RecoveryLine.IN_TRANSIT, 0, 1, 1, 0, RecoveryLine.NONE);
        Checks.slotIs(x, 1, RecoveryLine.IN_TRANSIT, 0, 2, 1, 0, RecoveryLine.NONE);
    }

    private static void sendWithoutRoom() {
        for (int m = 4; m <= 16; m++) {
            Calls x = new RealCalls(2, 3, m);
            Edges.fillSlots(x, 0, 1, m - 1);
            Checks.due("send(0, 1) into the last of " + m, x.send(0, 1), m - 1);
            Checks.keepsAll(x, "send(0, 1) beyond " + m, () -> x.send(0, 1), RecoveryLine.FULL);
            Checks.keepsAll(x, "send(1, 0) beyond " + m, () -> x.send(1, 0), RecoveryLine.FULL);
            // A received message holds its slot as well.
            for (int slot = 0; slot < m; slot++) {
                x.deliver(slot);
            }
            Checks.keepsAll(x, "send(0, 1), all received", () -> x.send(0, 1), RecoveryLine.FULL);
            x.checkpoint(0);
            x.checkpoint(1);
            Checks.due("reclaim()", x.reclaim(), 200 + m);
            Checks.due("send(0, 1) with room again", x.send(0, 1), 0);
        }
    }

    private static void sendFillsTheLeastEmptySlot() {
        Calls x = new RealCalls(3, 3, 5);
        Edges.fillSlots(x, 0, 1, 5);
        x.lose(3);
        x.lose(1);
        x.deliver(0);
        x.step(1, 100);
        x.checkpoint(1);
        x.checkpoint(1);
        int value = x.value(1);
        x.send(1, 2);
        Checks.slotIs(x, 1, RecoveryLine.IN_TRANSIT, 1, 2, value, 2, RecoveryLine.NONE);
        Checks.slotIsEmpty(x, 3);
        x.send(2, 0);
        Checks.slotIs(x, 3, RecoveryLine.IN_TRANSIT, 2, 0, 3, 0, RecoveryLine.NONE);
        x.lose(4);
        x.send(2, 1);
        Checks.slotIs(x, 4, RecoveryLine.IN_TRANSIT, 2, 1, 3, 0, RecoveryLine.NONE);
    }

    private static void sendAnswersTheSlot() {
        for (int m = 4; m <= 16; m++) {
            Calls x = new RealCalls(4, 3, m);
            for (int slot = 0; slot < m; slot++) {
                Checks.due("send of " + m, x.send(slot % 4, (slot + 1) % 4), slot);
            }
            for (int slot = m - 1; slot >= 0; slot--) {
                x.lose(slot);
                Checks.due("send into the only empty slot", x.send(3, 2), slot);
            }
        }
    }

    private static void sendChangesNothingElse() {
        Calls x = new RealCalls(3, 3, 5);
        x.step(2, 100);
        x.checkpoint(2);
        Edges.pass(x, 1, 0);
        Checks.changes(x, "send(2, 0)", () -> x.send(2, 0), 1,
                "message(1, 0)", "message(1, 1)", "message(1, 2)", "message(1, 3)", "message(1, 4)");
        Checks.slotIs(x, 1, RecoveryLine.IN_TRANSIT, 2, 0, 193, 1, RecoveryLine.NONE);
        // What the sender does later no longer touches the message.
        x.step(2, 0);
        x.checkpoint(2);
        x.crash(2);
        Checks.slotIs(x, 1, RecoveryLine.IN_TRANSIT, 2, 0, 193, 1, RecoveryLine.NONE);
    }

    private static void deliverReachesTheReceiver() {
        Calls x = new RealCalls(4, 3, 16);
        for (int p = 0; p < 4; p++) {
            for (int step = 1; step < 4; step++) {
                x.send(p, (p + step) % 4);
            }
        }
        // Backwards: messages may overtake each other.
        for (int slot = 11; slot >= 0; slot--) {
            int reached = x.message(slot, 2);
            int[] values = {x.value(0), x.value(1), x.value(2), x.value(3)};
            values[reached] = 31 * values[reached] + x.message(slot, 3);
            x.deliver(slot);
            for (int p = 0; p < 4; p++) {
                Checks.due("value(" + p + ") by slot " + slot, x.value(p), values[p]);
            }
        }
    }

    private static void deliverOfABadSlot() {
        for (int m = 4; m <= 16; m++) {
            Calls x = new RealCalls(2, 3, m);
            Edges.fillSlots(x, 0, 1, m);
            for (int slot : Edges.badOf(m)) {
                Checks.keepsAll(x, "deliver(" + slot + ")", () -> x.deliver(slot), RecoveryLine.BAD);
            }
        }
    }

    private static void deliverOfWhatIsNotInTransit() {
        Calls x = new RealCalls(2, 3, 4);
        for (int slot = 0; slot < 4; slot++) {
            int empty = slot;
            Checks.keepsAll(x, "deliver(" + slot + ") at first", () -> x.deliver(empty), RecoveryLine.NONE);
        }
        Edges.pass(x, 0, 1);
        Checks.keepsAll(x, "deliver(0) twice", () -> x.deliver(0), RecoveryLine.NONE);
        x.send(0, 1);
        x.lose(1);
        Checks.keepsAll(x, "deliver(1) once lost", () -> x.deliver(1), RecoveryLine.NONE);
        x.checkpoint(0);
        x.checkpoint(1);
        Checks.due("reclaim()", x.reclaim(), 201);
        Checks.keepsAll(x, "deliver(0) once reclaimed", () -> x.deliver(0), RecoveryLine.NONE);
    }

    private static void deliverToAProcessThatIsDown() {
        for (int r = 0; r < 3; r++) {
            Calls x = new RealCalls(3, 3, 4);
            x.send((r + 1) % 3, r);
            x.crash(r);
            Checks.keepsAll(x, "deliver(0), " + r + " down", () -> x.deliver(0), RecoveryLine.DOWN);
            x.recover();
            Checks.due("deliver(0), " + r + " up again", x.deliver(0), RecoveryLine.OK);
        }
    }

    private static void deliverFromAProcessThatIsDown() {
        Calls x = new RealCalls(3, 3, 4);
        x.send(1, 0);
        x.crash(1);
        x.crash(2);
        Checks.due("deliver(0)", x.deliver(0), RecoveryLine.OK);
        Checks.due("value(0)", x.value(0), 33);
        Checks.slotIs(x, 0, RecoveryLine.RECEIVED, 1, 0, 2, 0, 0);
    }

    private static void deliverMixesThePayloadIn() {
        for (int from : Edges.ints()) {
            for (int payload : Edges.ints()) {
                Calls x = new RealCalls(2, 3, 4);
                Edges.setValue(x, 0, payload);
                x.send(0, 1);
                Edges.setValue(x, 1, from);
                x.step(0, 5);
                x.checkpoint(1);
                Checks.due("deliver(0)", x.deliver(0), RecoveryLine.OK);
                Checks.due("value(1) from " + from + " by " + payload, x.value(1), Edges.mixed(from, payload));
                Checks.slotIs(x, 0, RecoveryLine.RECEIVED, 0, 1, payload, 0, 1);
            }
        }
        Calls x = new RealCalls(2, 3, 4);
        Edges.setValue(x, 0, 1);
        Edges.setValue(x, 1, Integer.MAX_VALUE);
        Edges.pass(x, 0, 1);
        Checks.due("value(1) wraps", x.value(1), 2147483618);
        Edges.raise(x, 1, 99);
        Edges.pass(x, 0, 1);
        Checks.due("message(1, 5) at the limit", x.message(1, 5), 99);
    }

    private static void deliverKeepsTheMessage() {
        Calls x = new RealCalls(3, 3, 4);
        x.checkpoint(2);
        x.send(0, 1);
        x.send(2, 1);
        x.checkpoint(1);
        x.deliver(1);
        Checks.slotIs(x, 1, RecoveryLine.RECEIVED, 2, 1, 3, 1, 1);
        x.step(2, 9);
        x.checkpoint(2);
        x.checkpoint(1);
        Checks.slotIs(x, 1, RecoveryLine.RECEIVED, 2, 1, 3, 1, 1);
        Checks.due("send(0, 2) goes elsewhere", x.send(0, 2), 2);
    }

    private static void deliverChangesNothingElse() {
        Calls x = new RealCalls(3, 3, 5);
        x.checkpoint(0);
        x.send(0, 2);
        x.send(0, 2);
        x.step(0, 5);
        x.checkpoint(2);
        x.checkpoint(2);
        Checks.changes(x, "deliver(0)", () -> x.deliver(0), RecoveryLine.OK,
                "value(2)", "message(0, 0)", "message(0, 5)");
        Checks.due("value(2)", x.value(2), 94);
    }

    private static void loseForGood() {
        Calls x = new RealCalls(2, 3, 4);
        Edges.pass(x, 0, 1);
        x.crash(1);
        Checks.due("recover() brings it in transit again", x.recover(), 2);
        x.lose(0);
        x.crash(1);
        Checks.due("recover() does not bring back what was lost", x.recover(), 2);
        Checks.slotIsEmpty(x, 0);
        Checks.due("deliver(0)", x.deliver(0), RecoveryLine.NONE);
        Checks.due("value(1)", x.value(1), 2);
    }

    private static void loseOfABadSlot() {
        for (int m = 4; m <= 16; m++) {
            Calls x = new RealCalls(2, 3, m);
            Edges.fillSlots(x, 0, 1, m);
            for (int slot : Edges.badOf(m)) {
                Checks.keepsAll(x, "lose(" + slot + ")", () -> x.lose(slot), RecoveryLine.BAD);
            }
        }
    }

    private static void loseOfWhatIsNotInTransit() {
        Calls x = new RealCalls(2, 3, 4);
        for (int slot = 0; slot < 4; slot++) {
            int empty = slot;
            Checks.keepsAll(x, "lose(" + slot + ") at first", () -> x.lose(empty), RecoveryLine.NONE);
        }
        Edges.pass(x, 0, 1);
        Checks.keepsAll(x, "lose(0) once received", () -> x.lose(0), RecoveryLine.NONE);
        x.send(0, 1);
        x.lose(1);
        Checks.keepsAll(x, "lose(1) twice", () -> x.lose(1), RecoveryLine.NONE);
        x.crash(0);
        x.crash(1);
        Checks.keepsAll(x, "lose(0) once received, all down", () -> x.lose(0), RecoveryLine.NONE);
    }

    private static void loseEmptiesTheSlot() {
        for (int m = 4; m <= 16; m++) {
            Calls x = new RealCalls(2, 3, m);
            Edges.fillSlots(x, 0, 1, m);
            for (int slot = 0; slot < m; slot++) {
                Checks.due("lose(" + slot + ")", x.lose(slot), RecoveryLine.OK);
                Checks.slotIsEmpty(x, slot);
            }
        }
    }

    private static void loseWhoeverIsDown() {
        for (int down = 0; down < 4; down++) {
            Calls x = new RealCalls(2, 3, 4);
            x.send(0, 1);
            for (int p = 0; p < 2; p++) {
                if ((down >> p & 1) != 0) {
                    x.crash(p);
                }
            }
            Checks.due("lose(0), down are " + down, x.lose(0), RecoveryLine.OK);
            Checks.slotIsEmpty(x, 0);
        }
    }

    private static void loseChangesNothingElse() {
        Calls x = new RealCalls(3, 3, 5);
        x.checkpoint(0);
        x.send(1, 0);
        x.send(0, 1);
        Edges.pass(x, 0, 1);
        Checks.changes(x, "lose(1)", () -> x.lose(1), RecoveryLine.OK,
                "message(1, 0)", "message(1, 1)", "message(1, 2)", "message(1, 3)", "message(1, 4)");
    }

    private static void lookAtBadArguments() {
        for (int m = 4; m <= 16; m++) {
            Calls x = new RealCalls(2, 3, m);
            Edges.fillSlots(x, 0, 1, m - 1);
            x.deliver(0);
            for (int slot : Edges.badOf(m)) {
                for (int what = -1; what <= 6; what++) {
                    Checks.due("message(" + slot + ", " + what + ")", x.message(slot, what), RecoveryLine.BAD);
                }
            }
            for (int what : Edges.badOf(6)) {
                for (int slot = 0; slot < m; slot++) {
                    Checks.due("message(" + slot + ", " + what + ")", x.message(slot, what), RecoveryLine.BAD);
                }
            }
        }
    }

    private static void lookAtTheState() {
        Calls x = new RealCalls(2, 3, 4);
        Checks.due("message(0, 0) at first", x.message(0, 0), RecoveryLine.EMPTY);
        x.send(0, 1);
        Checks.due("message(0, 0) once sent", x.message(0, 0), RecoveryLine.IN_TRANSIT);
        x.deliver(0);
        Checks.due("message(0, 0) once delivered", x.message(0, 0), RecoveryLine.RECEIVED);
        x.crash(1);
        Checks.due("message(0, 0) while down", x.message(0, 0), RecoveryLine.RECEIVED);
        x.recover();
        Checks.due("message(0, 0) once undone", x.message(0, 0), RecoveryLine.IN_TRANSIT);
        x.lose(0);
        Checks.due("message(0, 0) once lost", x.message(0, 0), RecoveryLine.EMPTY);
    }

    private static void lookAtAnEmptySlot() {
        for (int m = 4; m <= 16; m++) {
            Calls x = new RealCalls(2, 3, m);
            for (int slot = 0; slot < m; slot++) {
                Checks.slotIsEmpty(x, slot);
            }
            Edges.fillSlots(x, 0, 1, m);
            for (int slot = 0; slot < m; slot++) {
                x.lose(slot);
                Checks.slotIsEmpty(x, slot);
            }
        }
    }

    private static void lookAtTheSender() {
        Calls x = new RealCalls(4, 3, 16);
        for (int p = 0; p < 4; p++) {
            for (int step = 1; step < 4; step++) {
                int slot = x.send(p, (p + step) % 4);
                Checks.due("message(" + slot + ", 1) in transit", x.message(slot, 1), p);
                x.deliver(slot);
                Checks.due("message(" + slot + ", 1) received", x.message(slot, 1), p);
            }
        }
    }

    private static void lookAtTheReceiver() {
        Calls x = new RealCalls(4, 3, 16);
        for (int q = 0; q < 4; q++) {
            for (int step = 1; step < 4; step++) {
                int slot = x.send((q + step) % 4, q);
                Checks.due("message(" + slot + ", 2) in transit", x.message(slot, 2), q);
                x.deliver(slot);
                Checks.due("message(" + slot + ", 2) received", x.message(slot, 2), q);
            }
        }
    }

    private static void lookAtThePayload() {
        for (int payload : Edges.ints()) {
            Calls x = new RealCalls(2, 3, 4);
            Edges.setValue(x, 0, payload);
            x.send(0, 1);
            Checks.due("message(0, 3) in transit", x.message(0, 3), payload);
            x.deliver(0);
            x.step(0, 1);
            Checks.due("message(0, 3) received", x.message(0, 3), payload);
        }
    }

    private static void lookAtTheSendInterval() {
        for (int sent : new int[] {0, 1, 98, 99}) {
            Calls x = new RealCalls(2, 3, 4);
            Edges.raise(x, 0, sent);
            Edges.raise(x, 1, 50);
            x.send(0, 1);
            Checks.due("message(0, 4) in transit", x.message(0, 4), sent);
            x.checkpoint(0);
            x.deliver(0);
            x.checkpoint(1);
            Checks.due("message(0, 4) received", x.message(0, 4), sent);
        }
    }

    private static void lookAtTheReceiveInterval() {
        for (int received : new int[] {0, 1, 98, 99}) {
            Calls x = new RealCalls(2, 3, 4);
            Edges.raise(x, 0, 50);
            Edges.raise(x, 1, received);
            x.send(0, 1);
            Checks.due("message(0, 5) in transit", x.message(0, 5), RecoveryLine.NONE);
            x.deliver(0);
            Checks.due("message(0, 5) received", x.message(0, 5), received);
            x.checkpoint(1);
            Checks.due("message(0, 5) stays", x.message(0, 5), received);
        }
    }

    private static void lookingChangesNothing() {
        Calls x = new RealCalls(3, 3, 5);
        x.checkpoint(1);
        Edges.pass(x, 1, 2);
        x.send(2, 1);
        int[][] answers = {{2, 1, 2, 2, 1, 0}, {1, 2, 1, 95, 0, -4}, {0, -4, -4, -4, -4, -4}};
        for (int slot = 0; slot < 3; slot++) {
            for (int what = 0; what <= 5; what++) {
                int at = slot;
                int field = what;
                Checks.keepsAll(x, "message(" + slot + ", " + what + ")", () -> x.message(at, field),
                        answers[slot][what]);
            }
        }
        Checks.keepsAll(x, "message(5, 0)", () -> x.message(5, 0), RecoveryLine.BAD);
    }

    private static void nothingShowsOfOldMessages() {
        Calls x = new RealCalls(3, 4, 4);
        x.checkpoint(1);
        x.checkpoint(1);
        Edges.pass(x, 0, 1);
        x.crash(0);
        Checks.due("recover()", x.recover(), 3);
        Checks.slotIsEmpty(x, 0);
        // The slot once held a receipt in interval 2; the new message has none.
        x.send(2, 0);
        Checks.slotIs(x, 0, RecoveryLine.IN_TRANSIT, 2, 0, 3, 0, RecoveryLine.NONE);
        Checks.lineIs(x, 4, RecoveryLine.NOW, RecoveryLine.NOW, 0);
        x.deliver(0);
        Checks.slotIs(x, 0, RecoveryLine.RECEIVED, 2, 0, 3, 0, 0);
        Checks.lineIs(x, 4, 0, RecoveryLine.NOW, 0);
    }
}
